def FctS0 (y : MethodName) : Prop := Cond.static y ∈ XALL ∧ y.cls ≠ "java/lang/invoke/MethodHandle" ∧ y.cls ≠ "java/lang/invoke/VarHandle"
theorem FH_addTag : FctS0 yL_addTag ∧ Cond.codeWith yL_addTag cL_addTag 3 (some .int) [(0, 8, 11, 13)] ∈ XALL ∧ (parseMethodDescriptor yL_addTag.desc).map (fun d => d.parameters.length) = some 2 := ⟨⟨kt_yL_addTag, by decide +kernel, by decide +kernel⟩, kw_yL_addTag, by decide +kernel⟩
set_option maxHeartbeats 4000000 in
set_option maxRecDepth 100000 in
theorem ctL_addTag (l : Launch) (hT : l.stackTraces = false) {D : va_G} {cI cL : ClassId} {q : Nat → Nat} {qo : Nat} (S : St) (fo : Nat → Int64) (sz : Nat) {R1 : ((String × St) ⊕ (Int32 × St))} (hf : fX3_addTag S = some R1) (hE : ∀ (e : String) (S1 : St), R1 = Sum.inl (e, S1) → e = ISE) : Met l yL_addTag (Cond.codeWith yL_addTag cL_addTag 3 (some .int) [(0, 8, 11, 13)] :: XALL) ({ frames := 7, cells := 1, slots := 6, locals := 110 } : Room) (va_Pc [.ref (q 0), .ref qo] (hPre D cI cL (hw9 cI cL q qo (S, fo)) sz)) (hQi D cI cL q qo (S, fo) (fun k u => (∃ (r : Int32) (S1 : St), R1 = Sum.inr (r, S1) ∧ k = 0 ∧ u = (S1, vp_updL fo 0 (Int32.toInt64 r))) ∨ (∃ v : String × St, R1 = Sum.inl v ∧ k = hcd [ISE] v.1 ∧ u = (v.2, fo))) sz) 1 6 (va_A (hw9 cI cL q qo (S, fo)) sz) := by
  refine va_MetW (cc := cL_addTag) (maxL := 3) (ret := (some .int)) (hh := [(0, 8, 11, 13)]) (by decide) rfl ?_
  intro p e s m args below meth c s₁ B hml hv
  obtain ⟨rfl, hg⟩ := hv
  have C : Ctx p s m _ meth c cL_addTag 3 RL (some .int) := Ctx.of B hml rfl
  have htb := CtxH.of B
  obtain ⟨E, hw, hsz, Z⟩ := h_start hg
  subst hsz
  have hl := lv_entry ([.ref (q 0), .ref qo]) (n := 3) (Nat.le_of_ble_eq_true rfl)
  rw [lg_entry_eq]
  generalize (lg_sl ([.ref (q 0), .ref qo]) ++ List.replicate (3 - (lg_sl ([.ref (q 0), .ref qo])).length) Slot.unset).toArray = ls at hl ⊢
  have hl : lv_has ls 3 [(0, .ref (q 0)), (1, .ref qo)] := hl
  have hw : gW D (hw9 cI cL q qo (S, fo)) (xw cI q S ++ [oc cL qo fo]) s s.heap [] := hw
  refine lv_aload_n C.1 C.2.1 dL_addTag_0 rfl (lv_at hl 1 rfl) ?_
  refine lv_iconst (v := 0) C.1 C.2.1 dL_addTag_1 (by decide) ?_
  refine lv_aload_n C.1 C.2.1 dL_addTag_2 rfl (lv_at hl 0 rfl) ?_
  refine g_hcx (u0 := S) (rest := [.int 0, .ref qo]) hw (g_runHX (As := []) (rest := [.int 0, .ref qo]) C E.E hw Z F_X3_addTag rfl (ctX3_addTag l hT (cI := cI) (D := D) (q := q) S _ hf) km_L_7 rfl hl.1 rfl (Nat.le_of_ble_eq_true rfl) ⟨(Nat.le_of_ble_eq_true rfl), (Nat.le_of_ble_eq_true rfl)⟩ ⟨(Nat.le_of_ble_eq_true rfl), (Nat.le_of_ble_eq_true rfl)⟩ dL_addTag_3) (fun v q9 ce H locs hp hw hce hcv hcl => ?_) (fun r u hp H locs hw => ?_)
  · obtain ⟨e9, S9⟩ := v
    have hp : R1 = Sum.inl (e9, S9) := hp
    have hcl : s.vm.findClass e9 = some ce.cls := hcl
    have hw : gW D (hw9 cI cL q qo (S, fo)) (xw cI q S9 ++ [oc cL qo fo]) s H locs := hw
    rcases hE e9 S9 hp with rfl
    · refine g_catch (cls := ISE) C E htb [] (0, 8, 11, 13) [] rfl (fun z hz => absurd hz List.not_mem_nil) (by decide) (by decide) kl_L_13 kcast_ISE hce hcv hcl ?_
      refine lv_astore_n (lv' := [(2, .ref q9), (0, .ref (q 0)), (1, .ref qo)]) C.1 C.2.1 dL_addTag_11 rfl hl (by decide) rfl (fun ls hl => ?_)
      refine lv_iconst (v := 1) C.1 C.2.1 dL_addTag_12 (by decide) ?_
      exact h_iret (u := (S9, fo)) C hw (Nat.le_of_ble_eq_true rfl) (Nat.le_of_ble_eq_true rfl) (Or.inr ⟨(ISE, S9), hp, by show (1 : Int32) = hcd [ISE] ISE; decide +kernel, rfl⟩) dL_addTag_13
  · have hp : R1 = Sum.inr (r, u) := hp
    refine lv_i2l (v := Int32.toInt64 r) C.1 C.2.1 dL_addTag_6 rfl ?_
    have hw : gW D (hw9 cI cL q qo (S, fo)) (xw cI q u ++ [oc cL qo fo]) s H locs := hw
    refine g_last1 C E hw dL_addTag_7 (fun H locs hw => ?_)
    refine lv_goto (tgt := 14) C.1 C.2.1 dL_addTag_8 (by decide) ?_
    refine lv_iconst (v := 0) C.1 C.2.1 dL_addTag_14 (by decide) ?_
    exact h_iret (u := (u, vp_updL fo 0 (Int32.toInt64 r))) C hw (Nat.le_of_ble_eq_true rfl) (Nat.le_of_ble_eq_true rfl) (Or.inl ⟨r, u, hp, rfl, rfl⟩) dL_addTag_15
theorem FH_putUnder : FctS0 yL_putUnder ∧ Cond.codeWith yL_putUnder cL_putUnder 5 (some .int) [(0, 10, 13, 19), (0, 10, 17, 21), (0, 10, 21, 13)] ∈ XALL ∧ (parseMethodDescriptor yL_putUnder.desc).map (fun d => d.parameters.length) = some 4 := ⟨⟨kt_yL_putUnder, by decide +kernel, by decide +kernel⟩, kw_yL_putUnder, by decide +kernel⟩
set_option maxHeartbeats 4000000 in
set_option maxRecDepth 100000 in
theorem ctL_putUnder (l : Launch) (hT : l.stackTraces = false) {D : va_G} {cI cL : ClassId} {q : Nat → Nat} {qo : Nat} (S : St) (fo : Nat → Int64) (x1 : Int32) (x2 : Int32) (sz : Nat) {R1 : ((String × St) ⊕ (Int32 × St))} (hf : fX3_putUnder S x1 x2 = some R1) (hE : ∀ (e : String) (S1 : St), R1 = Sum.inl (e, S1) → e = IOB ∨ e = IAE ∨ e = ISE) : Met l yL_putUnder (Cond.codeWith yL_putUnder cL_putUnder 5 (some .int) [(0, 10, 13, 19), (0, 10, 17, 21), (0, 10, 21, 13)] :: XALL) ({ frames := 9, cells := 4, slots := 24, locals := 155 } : Room) (va_Pc [.ref (q 0), .int x1, .int x2, .ref qo] (hPre D cI cL (hw9 cI cL q qo (S, fo)) sz)) (hQi D cI cL q qo (S, fo) (fun k u => (∃ (r : Int32) (S1 : St), R1 = Sum.inr (r, S1) ∧ k = 0 ∧ u = (S1, vp_updL fo 0 (Int32.toInt64 r))) ∨ (∃ v : String × St, R1 = Sum.inl v ∧ k = hcd [IOB, IAE, ISE] v.1 ∧ u = (v.2, fo))) sz) 4 24 (va_A (hw9 cI cL q qo (S, fo)) sz) := by
  refine va_MetW (cc := cL_putUnder) (maxL := 5) (ret := (some .int)) (hh := [(0, 10, 13, 19), (0, 10, 17, 21), (0, 10, 21, 13)]) (by decide) rfl ?_
  intro p e s m args below meth c s₁ B hml hv
  obtain ⟨rfl, hg⟩ := hv
  have C : Ctx p s m _ meth c cL_putUnder 5 RL (some .int) := Ctx.of B hml rfl
  have htb := CtxH.of B
  obtain ⟨E, hw, hsz, Z⟩ := h_start hg
  subst hsz
  have hl := lv_entry ([.ref (q 0), .int x1, .int x2, .ref qo]) (n := 5) (Nat.le_of_ble_eq_true rfl)
  rw [lg_entry_eq]
  generalize (lg_sl ([.ref (q 0), .int x1, .int x2, .ref qo]) ++ List.replicate (5 - (lg_sl ([.ref (q 0), .int x1, .int x2, .ref qo])).length) Slot.unset).toArray = ls at hl ⊢
  have hl : lv_has ls 5 [(0, .ref (q 0)), (1, .int x1), (2, .int x2), (3, .ref qo)] := hl
  have hw : gW D (hw9 cI cL q qo (S, fo)) (xw cI q S ++ [oc cL qo fo]) s s.heap [] := hw
  refine lv_aload_n C.1 C.2.1 dL_putUnder_0 rfl (lv_at hl 3 rfl) ?_
  refine lv_iconst (v := 0) C.1 C.2.1 dL_putUnder_1 (by decide) ?_
  refine lv_aload_n C.1 C.2.1 dL_putUnder_2 rfl (lv_at hl 0 rfl) ?_
  refine lv_iload_n C.1 C.2.1 dL_putUnder_3 rfl (lv_at hl 1 rfl) ?_
  refine lv_iload_n C.1 C.2.1 dL_putUnder_4 rfl (lv_at hl 2 rfl) ?_
  refine g_hcx (u0 := S) (rest := [.int 0, .ref qo]) hw (g_runHX (As := [.int x1, .int x2]) (rest := [.int 0, .ref qo]) C E.E hw Z F_X3_putUnder rfl (ctX3_putUnder l hT (cI := cI) (D := D) (q := q) S x1 x2 _ hf) km_L_15 rfl hl.1 rfl (Nat.le_of_ble_eq_true rfl) ⟨(Nat.le_of_ble_eq_true rfl), (Nat.le_of_ble_eq_true rfl)⟩ ⟨(Nat.le_of_ble_eq_true rfl), (Nat.le_of_ble_eq_true rfl)⟩ dL_putUnder_5) (fun v q9 ce H locs hp hw hce hcv hcl => ?_) (fun r u hp H locs hw => ?_)
  · obtain ⟨e9, S9⟩ := v
    have hp : R1 = Sum.inl (e9, S9) := hp
    have hcl : s.vm.findClass e9 = some ce.cls := hcl
    have hw : gW D (hw9 cI cL q qo (S, fo)) (xw cI q S9 ++ [oc cL qo fo]) s H locs := hw
    rcases hE e9 S9 hp with rfl | rfl | rfl
    · refine g_catch (cls := IOB) C E htb [] (0, 10, 13, 19) [(0, 10, 17, 21), (0, 10, 21, 13)] rfl (fun z hz => absurd hz List.not_mem_nil) (by decide) (by decide) kl_L_19 kcast_IOB hce hcv hcl ?_
      refine lv_astore (lv' := [(4, .ref q9), (0, .ref (q 0)), (1, .int x1), (2, .int x2), (3, .ref qo)]) C.1 C.2.1 dL_putUnder_13 hl (by decide) rfl (fun ls hl => ?_)
      refine lv_iconst (v := 1) C.1 C.2.1 dL_putUnder_15 (by decide) ?_
      exact h_iret (u := (S9, fo)) C hw (Nat.le_of_ble_eq_true rfl) (Nat.le_of_ble_eq_true rfl) (Or.inr ⟨(IOB, S9), hp, by show (1 : Int32) = hcd [IOB, IAE, ISE] IOB; decide +kernel, rfl⟩) dL_putUnder_16
    · refine g_catch (cls := IAE) C E htb [(0, 10, 13, 19)] (0, 10, 17, 21) [(0, 10, 21, 13)] rfl (fun z hz => by rw [List.mem_singleton] at hz; subst hz; exact ⟨by decide, IOB, kl_L_19, E.2.2.1⟩) (by decide) (by decide) kl_L_21 kcast_IAE hce hcv hcl ?_
      refine lv_astore (lv' := [(4, .ref q9), (0, .ref (q 0)), (1, .int x1), (2, .int x2), (3, .ref qo)]) C.1 C.2.1 dL_putUnder_17 hl (by decide) rfl (fun ls hl => ?_)
      refine lv_iconst (v := 2) C.1 C.2.1 dL_putUnder_19 (by decide) ?_
      exact h_iret (u := (S9, fo)) C hw (Nat.le_of_ble_eq_true rfl) (Nat.le_of_ble_eq_true rfl) (Or.inr ⟨(IAE, S9), hp, by show (2 : Int32) = hcd [IOB, IAE, ISE] IAE; decide +kernel, rfl⟩) dL_putUnder_20
    · refine g_catch (cls := ISE) C E htb [(0, 10, 13, 19), (0, 10, 17, 21)] (0, 10, 21, 13) [] rfl (fun z hz => by rcases List.mem_cons.mp hz with rfl | hz; (exact ⟨by decide, IOB, kl_L_19, E.2.2.2.1⟩); (rw [List.mem_singleton] at hz; subst hz; exact ⟨by decide, IAE, kl_L_21, E.2.2.2.2⟩)) (by decide) (by decide) kl_L_13 kcast_ISE hce hcv hcl ?_
      refine lv_astore (lv' := [(4, .ref q9), (0, .ref (q 0)), (1, .int x1), (2, .int x2), (3, .ref qo)]) C.1 C.2.1 dL_putUnder_21 hl (by decide) rfl (fun ls hl => ?_)
      refine lv_iconst (v := 3) C.1 C.2.1 dL_putUnder_23 (by decide) ?_
      exact h_iret (u := (S9, fo)) C hw (Nat.le_of_ble_eq_true rfl) (Nat.le_of_ble_eq_true rfl) (Or.inr ⟨(ISE, S9), hp, by show (3 : Int32) = hcd [IOB, IAE, ISE] ISE; decide +kernel, rfl⟩) dL_putUnder_24
  · have hp : R1 = Sum.inr (r, u) := hp
    refine lv_i2l (v := Int32.toInt64 r) C.1 C.2.1 dL_putUnder_8 rfl ?_
    have hw : gW D (hw9 cI cL q qo (S, fo)) (xw cI q u ++ [oc cL qo fo]) s H locs := hw
    refine g_last1 C E hw dL_putUnder_9 (fun H locs hw => ?_)
    refine lv_goto (tgt := 25) C.1 C.2.1 dL_putUnder_10 (by decide) ?_
    refine lv_iconst (v := 0) C.1 C.2.1 dL_putUnder_25 (by decide) ?_
    exact h_iret (u := (u, vp_updL fo 0 (Int32.toInt64 r))) C hw (Nat.le_of_ble_eq_true rfl) (Nat.le_of_ble_eq_true rfl) (Or.inl ⟨r, u, hp, rfl, rfl⟩) dL_putUnder_26
theorem FH_freeTag : FctS0 yL_freeTag ∧ Cond.codeWith yL_freeTag cL_freeTag 4 (some .int) [(0, 9, 12, 19), (0, 9, 15, 13)] ∈ XALL ∧ (parseMethodDescriptor yL_freeTag.desc).map (fun d => d.parameters.length) = some 3 := ⟨⟨kt_yL_freeTag, by decide +kernel, by decide +kernel⟩, kw_yL_freeTag, by decide +kernel⟩
set_option maxHeartbeats 4000000 in
set_option maxRecDepth 100000 in
theorem ctL_freeTag (l : Launch) (hT : l.stackTraces = false) {D : va_G} {cI cL : ClassId} {q : Nat → Nat} {qo : Nat} (S : St) (fo : Nat → Int64) (x1 : Int32) (sz : Nat) {R1 : ((String × St) ⊕ (Int32 × St))} (hf : fX3_freeTag S x1 = some R1) (hE : ∀ (e : String) (S1 : St), R1 = Sum.inl (e, S1) → e = IOB ∨ e = ISE) : Met l yL_freeTag (Cond.codeWith yL_freeTag cL_freeTag 4 (some .int) [(0, 9, 12, 19), (0, 9, 15, 13)] :: XALL) ({ frames := 9, cells := 2, slots := 12, locals := 154 } : Room) (va_Pc [.ref (q 0), .int x1, .ref qo] (hPre D cI cL (hw9 cI cL q qo (S, fo)) sz)) (hQi D cI cL q qo (S, fo) (fun k u => (∃ (r : Int32) (S1 : St), R1 = Sum.inr (r, S1) ∧ k = 0 ∧ u = (S1, vp_updL fo 0 (Int32.toInt64 r))) ∨ (∃ v : String × St, R1 = Sum.inl v ∧ k = hcd [IOB, ISE] v.1 ∧ u = (v.2, fo))) sz) 2 12 (va_A (hw9 cI cL q qo (S, fo)) sz) := by
  refine va_MetW (cc := cL_freeTag) (maxL := 4) (ret := (some .int)) (hh := [(0, 9, 12, 19), (0, 9, 15, 13)]) (by decide) rfl ?_
  intro p e s m args below meth c s₁ B hml hv
  obtain ⟨rfl, hg⟩ := hv
  have C : Ctx p s m _ meth c cL_freeTag 4 RL (some .int) := Ctx.of B hml rfl
  have htb := CtxH.of B
  obtain ⟨E, hw, hsz, Z⟩ := h_start hg
  subst hsz
  have hl := lv_entry ([.ref (q 0), .int x1, .ref qo]) (n := 4) (Nat.le_of_ble_eq_true rfl)
  rw [lg_entry_eq]
  generalize (lg_sl ([.ref (q 0), .int x1, .ref qo]) ++ List.replicate (4 - (lg_sl ([.ref (q 0), .int x1, .ref qo])).length) Slot.unset).toArray = ls at hl ⊢
  have hl : lv_has ls 4 [(0, .ref (q 0)), (1, .int x1), (2, .ref qo)] := hl
  have hw : gW D (hw9 cI cL q qo (S, fo)) (xw cI q S ++ [oc cL qo fo]) s s.heap [] := hw
  refine lv_aload_n C.1 C.2.1 dL_freeTag_0 rfl (lv_at hl 2 rfl) ?_
  refine lv_iconst (v := 0) C.1 C.2.1 dL_freeTag_1 (by decide) ?_
  refine lv_aload_n C.1 C.2.1 dL_freeTag_2 rfl (lv_at hl 0 rfl) ?_
  refine lv_iload_n C.1 C.2.1 dL_freeTag_3 rfl (lv_at hl 1 rfl) ?_
  refine g_hcx (u0 := S) (rest := [.int 0, .ref qo]) hw (g_runHX (As := [.int x1]) (rest := [.int 0, .ref qo]) C E.E hw Z F_X3_freeTag rfl (ctX3_freeTag l hT (cI := cI) (D := D) (q := q) S x1 _ hf) km_L_23 rfl hl.1 rfl (Nat.le_of_ble_eq_true rfl) ⟨(Nat.le_of_ble_eq_true rfl), (Nat.le_of_ble_eq_true rfl)⟩ ⟨(Nat.le_of_ble_eq_true rfl), (Nat.le_of_ble_eq_true rfl)⟩ dL_freeTag_4) (fun v q9 ce H locs hp hw hce hcv hcl => ?_) (fun r u hp H locs hw => ?_)
  · obtain ⟨e9, S9⟩ := v
    have hp : R1 = Sum.inl (e9, S9) := hp
    have hcl : s.vm.findClass e9 = some ce.cls := hcl
    have hw : gW D (hw9 cI cL q qo (S, fo)) (xw cI q S9 ++ [oc cL qo fo]) s H locs := hw
    rcases hE e9 S9 hp with rfl | rfl
    · refine g_catch (cls := IOB) C E htb [] (0, 9, 12, 19) [(0, 9, 15, 13)] rfl (fun z hz => absurd hz List.not_mem_nil) (by decide) (by decide) kl_L_19 kcast_IOB hce hcv hcl ?_
      refine lv_astore_n (lv' := [(3, .ref q9), (0, .ref (q 0)), (1, .int x1), (2, .ref qo)]) C.1 C.2.1 dL_freeTag_12 rfl hl (by decide) rfl (fun ls hl => ?_)
      refine lv_iconst (v := 1) C.1 C.2.1 dL_freeTag_13 (by decide) ?_
      exact h_iret (u := (S9, fo)) C hw (Nat.le_of_ble_eq_true rfl) (Nat.le_of_ble_eq_true rfl) (Or.inr ⟨(IOB, S9), hp, by show (1 : Int32) = hcd [IOB, ISE] IOB; decide +kernel, rfl⟩) dL_freeTag_14
    · refine g_catch (cls := ISE) C E htb [(0, 9, 12, 19)] (0, 9, 15, 13) [] rfl (fun z hz => by rw [List.mem_singleton] at hz; subst hz; exact ⟨by decide, IOB, kl_L_19, E.2.2.2.1⟩) (by decide) (by decide) kl_L_13 kcast_ISE hce hcv hcl ?_
      refine lv_astore_n (lv' := [(3, .ref q9), (0, .ref (q 0)), (1, .int x1), (2, .ref qo)]) C.1 C.2.1 dL_freeTag_15 rfl hl (by decide) rfl (fun ls hl => ?_)
      refine lv_iconst (v := 2) C.1 C.2.1 dL_freeTag_16 (by decide) ?_
      exact h_iret (u := (S9, fo)) C hw (Nat.le_of_ble_eq_true rfl) (Nat.le_of_ble_eq_true rfl) (Or.inr ⟨(ISE, S9), hp, by show (2 : Int32) = hcd [IOB, ISE] ISE; decide +kernel, rfl⟩) dL_freeTag_17
  · have hp : R1 = Sum.inr (r, u) := hp
    refine lv_i2l (v := Int32.toInt64 r) C.1 C.2.1 dL_freeTag_7 rfl ?_
    have hw : gW D (hw9 cI cL q qo (S, fo)) (xw cI q u ++ [oc cL qo fo]) s H locs := hw
    refine g_last1 C E hw dL_freeTag_8 (fun H locs hw => ?_)
    refine lv_goto (tgt := 18) C.1 C.2.1 dL_freeTag_9 (by decide) ?_
    refine lv_iconst (v := 0) C.1 C.2.1 dL_freeTag_18 (by decide) ?_
    exact h_iret (u := (u, vp_updL fo 0 (Int32.toInt64 r))) C hw (Nat.le_of_ble_eq_true rfl) (Nat.le_of_ble_eq_true rfl) (Or.inl ⟨r, u, hp, rfl, rfl⟩) dL_freeTag_19
theorem FH_addDream : FctS0 yL_addDream ∧ Cond.codeWith yL_addDream cL_addDream 5 (some .int) [(0, 10, 13, 19), (0, 10, 17, 21), (0, 10, 21, 13)] ∈ XALL ∧ (parseMethodDescriptor yL_addDream.desc).map (fun d => d.parameters.length) = some 4 := ⟨⟨kt_yL_addDream, by decide +kernel, by decide +kernel⟩, kw_yL_addDream, by decide +kernel⟩
set_option maxHeartbeats 4000000 in
set_option maxRecDepth 100000 in
theorem ctL_addDream (l : Launch) (hT : l.stackTraces = false) {D : va_G} {cI cL : ClassId} {q : Nat → Nat} {qo : Nat} (S : St) (fo : Nat → Int64) (x1 : Int32) (x2 : Int32) (sz : Nat) {R1 : ((String × St) ⊕ (Int32 × St))} (hf : fX3_addDream S x1 x2 = some R1) (hE : ∀ (e : String) (S1 : St), R1 = Sum.inl (e, S1) → e = IOB ∨ e = IAE ∨ e = ISE) : Met l yL_addDream (Cond.codeWith yL_addDream cL_addDream 5 (some .int) [(0, 10, 13, 19), (0, 10, 17, 21), (0, 10, 21, 13)] :: XALL) ({ frames := 8, cells := 3, slots := 18, locals := 134 } : Room) (va_Pc [.ref (q 0), .int x1, .int x2, .ref qo] (hPre D cI cL (hw9 cI cL q qo (S, fo)) sz)) (hQi D cI cL q qo (S, fo) (fun k u => (∃ (r : Int32) (S1 : St), R1 = Sum.inr (r, S1) ∧ k = 0 ∧ u = (S1, vp_updL fo 0 (Int32.toInt64 r))) ∨ (∃ v : String × St, R1 = Sum.inl v ∧ k = hcd [IOB, IAE, ISE] v.1 ∧ u = (v.2, fo))) sz) 3 18 (va_A (hw9 cI cL q qo (S, fo)) sz) := by
  refine va_MetW (cc := cL_addDream) (maxL := 5) (ret := (some .int)) (hh := [(0, 10, 13, 19), (0, 10, 17, 21), (0, 10, 21, 13)]) (by decide) rfl ?_
  intro p e s m args below meth c s₁ B hml hv
  obtain ⟨rfl, hg⟩ := hv
  have C : Ctx p s m _ meth c cL_addDream 5 RL (some .int) := Ctx.of B hml rfl
  have htb := CtxH.of B
  obtain ⟨E, hw, hsz, Z⟩ := h_start hg
  subst hsz
  have hl := lv_entry ([.ref (q 0), .int x1, .int x2, .ref qo]) (n := 5) (Nat.le_of_ble_eq_true rfl)
  rw [lg_entry_eq]
  generalize (lg_sl ([.ref (q 0), .int x1, .int x2, .ref qo]) ++ List.replicate (5 - (lg_sl ([.ref (q 0), .int x1, .int x2, .ref qo])).length) Slot.unset).toArray = ls at hl ⊢
  have hl : lv_has ls 5 [(0, .ref (q 0)), (1, .int x1), (2, .int x2), (3, .ref qo)] := hl
  have hw : gW D (hw9 cI cL q qo (S, fo)) (xw cI q S ++ [oc cL qo fo]) s s.heap [] := hw
  refine lv_aload_n C.1 C.2.1 dL_addDream_0 rfl (lv_at hl 3 rfl) ?_
  refine lv_iconst (v := 0) C.1 C.2.1 dL_addDream_1 (by decide) ?_
  refine lv_aload_n C.1 C.2.1 dL_addDream_2 rfl (lv_at hl 0 rfl) ?_
  refine lv_iload_n C.1 C.2.1 dL_addDream_3 rfl (lv_at hl 1 rfl) ?_
  refine lv_iload_n C.1 C.2.1 dL_addDream_4 rfl (lv_at hl 2 rfl) ?_
  refine g_hcx (u0 := S) (rest := [.int 0, .ref qo]) hw (g_runHX (As := [.int x1, .int x2]) (rest := [.int 0, .ref qo]) C E.E hw Z F_X3_addDream rfl (ctX3_addDream l hT (cI := cI) (D := D) (q := q) S x1 x2 _ hf) km_L_27 rfl hl.1 rfl (Nat.le_of_ble_eq_true rfl) ⟨(Nat.le_of_ble_eq_true rfl), (Nat.le_of_ble_eq_true rfl)⟩ ⟨(Nat.le_of_ble_eq_true rfl), (Nat.le_of_ble_eq_true rfl)⟩ dL_addDream_5) (fun v q9 ce H locs hp hw hce hcv hcl => ?_) (fun r u hp H locs hw => ?_)
  · obtain ⟨e9, S9⟩ := v
    have hp : R1 = Sum.inl (e9, S9) := hp
    have hcl : s.vm.findClass e9 = some ce.cls := hcl
    have hw : gW D (hw9 cI cL q qo (S, fo)) (xw cI q S9 ++ [oc cL qo fo]) s H locs := hw
    rcases hE e9 S9 hp with rfl | rfl | rfl
    · refine g_catch (cls := IOB) C E htb [] (0, 10, 13, 19) [(0, 10, 17, 21), (0, 10, 21, 13)] rfl (fun z hz => absurd hz List.not_mem_nil) (by decide) (by decide) kl_L_19 kcast_IOB hce hcv hcl ?_
      refine lv_astore (lv' := [(4, .ref q9), (0, .ref (q 0)), (1, .int x1), (2, .int x2), (3, .ref qo)]) C.1 C.2.1 dL_addDream_13 hl (by decide) rfl (fun ls hl => ?_)
      refine lv_iconst (v := 1) C.1 C.2.1 dL_addDream_15 (by decide) ?_
      exact h_iret (u := (S9, fo)) C hw (Nat.le_of_ble_eq_true rfl) (Nat.le_of_ble_eq_true rfl) (Or.inr ⟨(IOB, S9), hp, by show (1 : Int32) = hcd [IOB, IAE, ISE] IOB; decide +kernel, rfl⟩) dL_addDream_16
    · refine g_catch (cls := IAE) C E htb [(0, 10, 13, 19)] (0, 10, 17, 21) [(0, 10, 21, 13)] rfl (fun z hz => by rw [List.mem_singleton] at hz; subst hz; exact ⟨by decide, IOB, kl_L_19, E.2.2.1⟩) (by decide) (by decide) kl_L_21 kcast_IAE hce hcv hcl ?_
      refine lv_astore (lv' := [(4, .ref q9), (0, .ref (q 0)), (1, .int x1), (2, .int x2), (3, .ref qo)]) C.1 C.2.1 dL_addDream_17 hl (by decide) rfl (fun ls hl => ?_)
      refine lv_iconst (v := 2) C.1 C.2.1 dL_addDream_19 (by decide) ?_
      exact h_iret (u := (S9, fo)) C hw (Nat.le_of_ble_eq_true rfl) (Nat.le_of_ble_eq_true rfl) (Or.inr ⟨(IAE, S9), hp, by show (2 : Int32) = hcd [IOB, IAE, ISE] IAE; decide +kernel, rfl⟩) dL_addDream_20
    · refine g_catch (cls := ISE) C E htb [(0, 10, 13, 19), (0, 10, 17, 21)] (0, 10, 21, 13) [] rfl (fun z hz => by rcases List.mem_cons.mp hz with rfl | hz; (exact ⟨by decide, IOB, kl_L_19, E.2.2.2.1⟩); (rw [List.mem_singleton] at hz; subst hz; exact ⟨by decide, IAE, kl_L_21, E.2.2.2.2⟩)) (by decide) (by decide) kl_L_13 kcast_ISE hce hcv hcl ?_
      refine lv_astore (lv' := [(4, .ref q9), (0, .ref (q 0)), (1, .int x1), (2, .int x2), (3, .ref qo)]) C.1 C.2.1 dL_addDream_21 hl (by decide) rfl (fun ls hl => ?_)
      refine lv_iconst (v := 3) C.1 C.2.1 dL_addDream_23 (by decide) ?_
      exact h_iret (u := (S9, fo)) C hw (Nat.le_of_ble_eq_true rfl) (Nat.le_of_ble_eq_true rfl) (Or.inr ⟨(ISE, S9), hp, by show (3 : Int32) = hcd [IOB, IAE, ISE] ISE; decide +kernel, rfl⟩) dL_addDream_24
  · have hp : R1 = Sum.inr (r, u) := hp
    refine lv_i2l (v := Int32.toInt64 r) C.1 C.2.1 dL_addDream_8 rfl ?_
    have hw : gW D (hw9 cI cL q qo (S, fo)) (xw cI q u ++ [oc cL qo fo]) s H locs := hw
    refine g_last1 C E hw dL_addDream_9 (fun H locs hw => ?_)
    refine lv_goto (tgt := 25) C.1 C.2.1 dL_addDream_10 (by decide) ?_
    refine lv_iconst (v := 0) C.1 C.2.1 dL_addDream_25 (by decide) ?_
    exact h_iret (u := (u, vp_updL fo 0 (Int32.toInt64 r))) C hw (Nat.le_of_ble_eq_true rfl) (Nat.le_of_ble_eq_true rfl) (Or.inl ⟨r, u, hp, rfl, rfl⟩) dL_addDream_26
theorem FH_tagDream : FctS0 yL_tagDream ∧ Cond.codeWith yL_tagDream cL_tagDream 5 (some .int) [(0, 10, 13, 19), (0, 10, 17, 13)] ∈ XALL ∧ (parseMethodDescriptor yL_tagDream.desc).map (fun d => d.parameters.length) = some 4 := ⟨⟨kt_yL_tagDream, by decide +kernel, by decide +kernel⟩, kw_yL_tagDream, by decide +kernel⟩
set_option maxHeartbeats 4000000 in
set_option maxRecDepth 100000 in
theorem ctL_tagDream (l : Launch) (hT : l.stackTraces = false) {D : va_G} {cI cL : ClassId} {q : Nat → Nat} {qo : Nat} (S : St) (fo : Nat → Int64) (x1 : Int32) (x2 : Int32) (sz : Nat) {R1 : ((String × St) ⊕ (Int32 × St))} (hf : fX3_tagDream S x1 x2 = some R1) (hE : ∀ (e : String) (S1 : St), R1 = Sum.inl (e, S1) → e = IOB ∨ e = ISE) : Met l yL_tagDream (Cond.codeWith yL_tagDream cL_tagDream 5 (some .int) [(0, 10, 13, 19), (0, 10, 17, 13)] :: XALL) ({ frames := 8, cells := 3, slots := 18, locals := 133 } : Room) (va_Pc [.ref (q 0), .int x1, .int x2, .ref qo] (hPre D cI cL (hw9 cI cL q qo (S, fo)) sz)) (hQi D cI cL q qo (S, fo) (fun k u => (∃ (r : Int32) (S1 : St), R1 = Sum.inr (r, S1) ∧ k = 0 ∧ u = (S1, vp_updL fo 0 (Int32.toInt64 r))) ∨ (∃ v : String × St, R1 = Sum.inl v ∧ k = hcd [IOB, ISE] v.1 ∧ u = (v.2, fo))) sz) 3 18 (va_A (hw9 cI cL q qo (S, fo)) sz) := by
  refine va_MetW (cc := cL_tagDream) (maxL := 5) (ret := (some .int)) (hh := [(0, 10, 13, 19), (0, 10, 17, 13)]) (by decide) rfl ?_
  intro p e s m args below meth c s₁ B hml hv
  obtain ⟨rfl, hg⟩ := hv
  have C : Ctx p s m _ meth c cL_tagDream 5 RL (some .int) := Ctx.of B hml rfl
  have htb := CtxH.of B
  obtain ⟨E, hw, hsz, Z⟩ := h_start hg
  subst hsz
  have hl := lv_entry ([.ref (q 0), .int x1, .int x2, .ref qo]) (n := 5) (Nat.le_of_ble_eq_true rfl)
  rw [lg_entry_eq]
  generalize (lg_sl ([.ref (q 0), .int x1, .int x2, .ref qo]) ++ List.replicate (5 - (lg_sl ([.ref (q 0), .int x1, .int x2, .ref qo])).length) Slot.unset).toArray = ls at hl ⊢
  have hl : lv_has ls 5 [(0, .ref (q 0)), (1, .int x1), (2, .int x2), (3, .ref qo)] := hl
  have hw : gW D (hw9 cI cL q qo (S, fo)) (xw cI q S ++ [oc cL qo fo]) s s.heap [] := hw
  refine lv_aload_n C.1 C.2.1 dL_tagDream_0 rfl (lv_at hl 3 rfl) ?_
  refine lv_iconst (v := 0) C.1 C.2.1 dL_tagDream_1 (by decide) ?_
  refine lv_aload_n C.1 C.2.1 dL_tagDream_2 rfl (lv_at hl 0 rfl) ?_
  refine lv_iload_n C.1 C.2.1 dL_tagDream_3 rfl (lv_at hl 1 rfl) ?_
  refine lv_iload_n C.1 C.2.1 dL_tagDream_4 rfl (lv_at hl 2 rfl) ?_
  refine g_hcx (u0 := S) (rest := [.int 0, .ref qo]) hw (g_runHX (As := [.int x1, .int x2]) (rest := [.int 0, .ref qo]) C E.E hw Z F_X3_tagDream rfl (ctX3_tagDream l hT (cI := cI) (D := D) (q := q) S x1 x2 _ hf) km_L_30 rfl hl.1 rfl (Nat.le_of_ble_eq_true rfl) ⟨(Nat.le_of_ble_eq_true rfl), (Nat.le_of_ble_eq_true rfl)⟩ ⟨(Nat.le_of_ble_eq_true rfl), (Nat.le_of_ble_eq_true rfl)⟩ dL_tagDream_5) (fun v q9 ce H locs hp hw hce hcv hcl => ?_) (fun r u hp H locs hw => ?_)
  · obtain ⟨e9, S9⟩ := v
    have hp : R1 = Sum.inl (e9, S9) := hp
    have hcl : s.vm.findClass e9 = some ce.cls := hcl
    have hw : gW D (hw9 cI cL q qo (S, fo)) (xw cI q S9 ++ [oc cL qo fo]) s H locs := hw
    rcases hE e9 S9 hp with rfl | rfl
    · refine g_catch (cls := IOB) C E htb [] (0, 10, 13, 19) [(0, 10, 17, 13)] rfl (fun z hz => absurd hz List.not_mem_nil) (by decide) (by decide) kl_L_19 kcast_IOB hce hcv hcl ?_
      refine lv_astore (lv' := [(4, .ref q9), (0, .ref (q 0)), (1, .int x1), (2, .int x2), (3, .ref qo)]) C.1 C.2.1 dL_tagDream_13 hl (by decide) rfl (fun ls hl => ?_)
      refine lv_iconst (v := 1) C.1 C.2.1 dL_tagDream_15 (by decide) ?_
      exact h_iret (u := (S9, fo)) C hw (Nat.le_of_ble_eq_true rfl) (Nat.le_of_ble_eq_true rfl) (Or.inr ⟨(IOB, S9), hp, by show (1 : Int32) = hcd [IOB, ISE] IOB; decide +kernel, rfl⟩) dL_tagDream_16
    · refine g_catch (cls := ISE) C E htb [(0, 10, 13, 19)] (0, 10, 17, 13) [] rfl (fun z hz => by rw [List.mem_singleton] at hz; subst hz; exact ⟨by decide, IOB, kl_L_19, E.2.2.2.1⟩) (by decide) (by decide) kl_L_13 kcast_ISE hce hcv hcl ?_
      refine lv_astore (lv' := [(4, .ref q9), (0, .ref (q 0)), (1, .int x1), (2, .int x2), (3, .ref qo)]) C.1 C.2.1 dL_tagDream_17 hl (by decide) rfl (fun ls hl => ?_)
      refine lv_iconst (v := 2) C.1 C.2.1 dL_tagDream_19 (by decide) ?_
      exact h_iret (u := (S9, fo)) C hw (Nat.le_of_ble_eq_true rfl) (Nat.le_of_ble_eq_true rfl) (Or.inr ⟨(ISE, S9), hp, by show (2 : Int32) = hcd [IOB, ISE] ISE; decide +kernel, rfl⟩) dL_tagDream_20
  · have hp : R1 = Sum.inr (r, u) := hp
    refine lv_i2l (v := Int32.toInt64 r) C.1 C.2.1 dL_tagDream_8 rfl ?_
    have hw : gW D (hw9 cI cL q qo (S, fo)) (xw cI q u ++ [oc cL qo fo]) s H locs := hw
    refine g_last1 C E hw dL_tagDream_9 (fun H locs hw => ?_)
    refine lv_goto (tgt := 21) C.1 C.2.1 dL_tagDream_10 (by decide) ?_
    refine lv_iconst (v := 0) C.1 C.2.1 dL_tagDream_21 (by decide) ?_
    exact h_iret (u := (u, vp_updL fo 0 (Int32.toInt64 r))) C hw (Nat.le_of_ble_eq_true rfl) (Nat.le_of_ble_eq_true rfl) (Or.inl ⟨r, u, hp, rfl, rfl⟩) dL_tagDream_22
theorem FH_untagDream : FctS0 yL_untagDream ∧ Cond.codeWith yL_untagDream cL_untagDream 5 (some .int) [(0, 10, 13, 19), (0, 10, 17, 13)] ∈ XALL ∧ (parseMethodDescriptor yL_untagDream.desc).map (fun d => d.parameters.length) = some 4 := ⟨⟨kt_yL_untagDream, by decide +kernel, by decide +kernel⟩, kw_yL_untagDream, by decide +kernel⟩
set_option maxHeartbeats 4000000 in
set_option maxRecDepth 100000 in
theorem ctL_untagDream (l : Launch) (hT : l.stackTraces = false) {D : va_G} {cI cL : ClassId} {q : Nat → Nat} {qo : Nat} (S : St) (fo : Nat → Int64) (x1 : Int32) (x2 : Int32) (sz : Nat) {R1 : ((String × St) ⊕ (Int32 × St))} (hf : fX3_untagDream S x1 x2 = some R1) (hE : ∀ (e : String) (S1 : St), R1 = Sum.inl (e, S1) → e = IOB ∨ e = ISE) : Met l yL_untagDream (Cond.codeWith yL_untagDream cL_untagDream 5 (some .int) [(0, 10, 13, 19), (0, 10, 17, 13)] :: XALL) ({ frames := 8, cells := 4, slots := 24, locals := 133 } : Room) (va_Pc [.ref (q 0), .int x1, .int x2, .ref qo] (hPre D cI cL (hw9 cI cL q qo (S, fo)) sz)) (hQi D cI cL q qo (S, fo) (fun k u => (∃ (r : Int32) (S1 : St), R1 = Sum.inr (r, S1) ∧ k = 0 ∧ u = (S1, vp_updL fo 0 (Int32.toInt64 r))) ∨ (∃ v : String × St, R1 = Sum.inl v ∧ k = hcd [IOB, ISE] v.1 ∧ u = (v.2, fo))) sz) 4 24 (va_A (hw9 cI cL q qo (S, fo)) sz) := by
  refine va_MetW (cc := cL_untagDream) (maxL := 5) (ret := (some .int)) (hh := [(0, 10, 13, 19), (0, 10, 17, 13)]) (by decide) rfl ?_
  intro p e s m args below meth c s₁ B hml hv
  obtain ⟨rfl, hg⟩ := hv
  have C : Ctx p s m _ meth c cL_untagDream 5 RL (some .int) := Ctx.of B hml rfl
  have htb := CtxH.of B
  obtain ⟨E, hw, hsz, Z⟩ := h_start hg
  subst hsz
  have hl := lv_entry ([.ref (q 0), .int x1, .int x2, .ref qo]) (n := 5) (Nat.le_of_ble_eq_true rfl)
  rw [lg_entry_eq]
  generalize (lg_sl ([.ref (q 0), .int x1, .int x2, .ref qo]) ++ List.replicate (5 - (lg_sl ([.ref (q 0), .int x1, .int x2, .ref qo])).length) Slot.unset).toArray = ls at hl ⊢
  have hl : lv_has ls 5 [(0, .ref (q 0)), (1, .int x1), (2, .int x2), (3, .ref qo)] := hl
  have hw : gW D (hw9 cI cL q qo (S, fo)) (xw cI q S ++ [oc cL qo fo]) s s.heap [] := hw
  refine lv_aload_n C.1 C.2.1 dL_untagDream_0 rfl (lv_at hl 3 rfl) ?_
  refine lv_iconst (v := 0) C.1 C.2.1 dL_untagDream_1 (by decide) ?_
  refine lv_aload_n C.1 C.2.1 dL_untagDream_2 rfl (lv_at hl 0 rfl) ?_
  refine lv_iload_n C.1 C.2.1 dL_untagDream_3 rfl (lv_at hl 1 rfl) ?_
  refine lv_iload_n C.1 C.2.1 dL_untagDream_4 rfl (lv_at hl 2 rfl) ?_
  refine g_hcx (u0 := S) (rest := [.int 0, .ref qo]) hw (g_runHX (As := [.int x1, .int x2]) (rest := [.int 0, .ref qo]) C E.E hw Z F_X3_untagDream rfl (ctX3_untagDream l hT (cI := cI) (D := D) (q := q) S x1 x2 _ hf) km_L_33 rfl hl.1 rfl (Nat.le_of_ble_eq_true rfl) ⟨(Nat.le_of_ble_eq_true rfl), (Nat.le_of_ble_eq_true rfl)⟩ ⟨(Nat.le_of_ble_eq_true rfl), (Nat.le_of_ble_eq_true rfl)⟩ dL_untagDream_5) (fun v q9 ce H locs hp hw hce hcv hcl => ?_) (fun r u hp H locs hw => ?_)
  · obtain ⟨e9, S9⟩ := v
    have hp : R1 = Sum.inl (e9, S9) := hp
    have hcl : s.vm.findClass e9 = some ce.cls := hcl
    have hw : gW D (hw9 cI cL q qo (S, fo)) (xw cI q S9 ++ [oc cL qo fo]) s H locs := hw
    rcases hE e9 S9 hp with rfl | rfl
    · refine g_catch (cls := IOB) C E htb [] (0, 10, 13, 19) [(0, 10, 17, 13)] rfl (fun z hz => absurd hz List.not_mem_nil) (by decide) (by decide) kl_L_19 kcast_IOB hce hcv hcl ?_
      refine lv_astore (lv' := [(4, .ref q9), (0, .ref (q 0)), (1, .int x1), (2, .int x2), (3, .ref qo)]) C.1 C.2.1 dL_untagDream_13 hl (by decide) rfl (fun ls hl => ?_)
      refine lv_iconst (v := 1) C.1 C.2.1 dL_untagDream_15 (by decide) ?_
      exact h_iret (u := (S9, fo)) C hw (Nat.le_of_ble_eq_true rfl) (Nat.le_of_ble_eq_true rfl) (Or.inr ⟨(IOB, S9), hp, by show (1 : Int32) = hcd [IOB, ISE] IOB; decide +kernel, rfl⟩) dL_untagDream_16
    · refine g_catch (cls := ISE) C E htb [(0, 10, 13, 19)] (0, 10, 17, 13) [] rfl (fun z hz => by rw [List.mem_singleton] at hz; subst hz; exact ⟨by decide, IOB, kl_L_19, E.2.2.2.1⟩) (by decide) (by decide) kl_L_13 kcast_ISE hce hcv hcl ?_
      refine lv_astore (lv' := [(4, .ref q9), (0, .ref (q 0)), (1, .int x1), (2, .int x2), (3, .ref qo)]) C.1 C.2.1 dL_untagDream_17 hl (by decide) rfl (fun ls hl => ?_)
      refine lv_iconst (v := 2) C.1 C.2.1 dL_untagDream_19 (by decide) ?_
      exact h_iret (u := (S9, fo)) C hw (Nat.le_of_ble_eq_true rfl) (Nat.le_of_ble_eq_true rfl) (Or.inr ⟨(ISE, S9), hp, by show (2 : Int32) = hcd [IOB, ISE] ISE; decide +kernel, rfl⟩) dL_untagDream_20
  · have hp : R1 = Sum.inr (r, u) := hp
    refine lv_i2l (v := Int32.toInt64 r) C.1 C.2.1 dL_untagDream_8 rfl ?_
    have hw : gW D (hw9 cI cL q qo (S, fo)) (xw cI q u ++ [oc cL qo fo]) s H locs := hw
    refine g_last1 C E hw dL_untagDream_9 (fun H locs hw => ?_)
    refine lv_goto (tgt := 21) C.1 C.2.1 dL_untagDream_10 (by decide) ?_
    refine lv_iconst (v := 0) C.1 C.2.1 dL_untagDream_21 (by decide) ?_
    exact h_iret (u := (u, vp_updL fo 0 (Int32.toInt64 r))) C hw (Nat.le_of_ble_eq_true rfl) (Nat.le_of_ble_eq_true rfl) (Or.inl ⟨r, u, hp, rfl, rfl⟩) dL_untagDream_22
theorem FH_recall : FctS0 yL_recall ∧ Cond.codeWith yL_recall cL_recall 5 (some .int) [(0, 10, 13, 19), (0, 10, 17, 21)] ∈ XALL ∧ (parseMethodDescriptor yL_recall.desc).map (fun d => d.parameters.length) = some 4 := ⟨⟨kt_yL_recall, by decide +kernel, by decide +kernel⟩, kw_yL_recall, by decide +kernel⟩
set_option maxHeartbeats 4000000 in
set_option maxRecDepth 100000 in
theorem ctL_recall (l : Launch) (hT : l.stackTraces = false) {D : va_G} {cI cL : ClassId} {q : Nat → Nat} {qo : Nat} (S : St) (fo : Nat → Int64) (x1 : Int32) (x2 : Int32) (sz : Nat) {R1 : ((String × St) ⊕ (Int32 × St))} (hf : fX3_recall S x1 x2 = some R1) (hE : ∀ (e : String) (S1 : St), R1 = Sum.inl (e, S1) → e = IOB ∨ e = IAE) : Met l yL_recall (Cond.codeWith yL_recall cL_recall 5 (some .int) [(0, 10, 13, 19), (0, 10, 17, 21)] :: XALL) ({ frames := 8, cells := 2, slots := 12, locals := 134 } : Room) (va_Pc [.ref (q 0), .int x1, .int x2, .ref qo] (hPre D cI cL (hw9 cI cL q qo (S, fo)) sz)) (hQi D cI cL q qo (S, fo) (fun k u => (∃ (r : Int32) (S1 : St), R1 = Sum.inr (r, S1) ∧ k = 0 ∧ u = (S1, vp_updL fo 0 (Int32.toInt64 r))) ∨ (∃ v : String × St, R1 = Sum.inl v ∧ k = hcd [IOB, IAE] v.1 ∧ u = (v.2, fo))) sz) 2 12 (va_A (hw9 cI cL q qo (S, fo)) sz) := by
  refine va_MetW (cc := cL_recall) (maxL := 5) (ret := (some .int)) (hh := [(0, 10, 13, 19), (0, 10, 17, 21)]) (by decide) rfl ?_
  intro p e s m args below meth c s₁ B hml hv
  obtain ⟨rfl, hg⟩ := hv
  have C : Ctx p s m _ meth c cL_recall 5 RL (some .int) := Ctx.of B hml rfl
  have htb := CtxH.of B
  obtain ⟨E, hw, hsz, Z⟩ := h_start hg
  subst hsz
  have hl := lv_entry ([.ref (q 0), .int x1, .int x2, .ref qo]) (n := 5) (Nat.le_of_ble_eq_true rfl)
  rw [lg_entry_eq]
  generalize (lg_sl ([.ref (q 0), .int x1, .int x2, .ref qo]) ++ List.replicate (5 - (lg_sl ([.ref (q 0), .int x1, .int x2, .ref qo])).length) Slot.unset).toArray = ls at hl ⊢
  have hl : lv_has ls 5 [(0, .ref (q 0)), (1, .int x1), (2, .int x2), (3, .ref qo)] := hl
  have hw : gW D (hw9 cI cL q qo (S, fo)) (xw cI q S ++ [oc cL qo fo]) s s.heap [] := hw
  refine lv_aload_n C.1 C.2.1 dL_recall_0 rfl (lv_at hl 3 rfl) ?_
  refine lv_iconst (v := 0) C.1 C.2.1 dL_recall_1 (by decide) ?_
  refine lv_aload_n C.1 C.2.1 dL_recall_2 rfl (lv_at hl 0 rfl) ?_
  refine lv_iload_n C.1 C.2.1 dL_recall_3 rfl (lv_at hl 1 rfl) ?_
  refine lv_iload_n C.1 C.2.1 dL_recall_4 rfl (lv_at hl 2 rfl) ?_
  refine g_hcx (u0 := S) (rest := [.int 0, .ref qo]) hw (g_runHX (As := [.int x1, .int x2]) (rest := [.int 0, .ref qo]) C E.E hw Z F_X3_recall rfl (ctX3_recall l hT (cI := cI) (D := D) (q := q) S x1 x2 _ hf) km_L_36 rfl hl.1 rfl (Nat.le_of_ble_eq_true rfl) ⟨(Nat.le_of_ble_eq_true rfl), (Nat.le_of_ble_eq_true rfl)⟩ ⟨(Nat.le_of_ble_eq_true rfl), (Nat.le_of_ble_eq_true rfl)⟩ dL_recall_5) (fun v q9 ce H locs hp hw hce hcv hcl => ?_) (fun r u hp H locs hw => ?_)
  · obtain ⟨e9, S9⟩ := v
    have hp : R1 = Sum.inl (e9, S9) := hp
    have hcl : s.vm.findClass e9 = some ce.cls := hcl
    have hw : gW D (hw9 cI cL q qo (S, fo)) (xw cI q S9 ++ [oc cL qo fo]) s H locs := hw
    rcases hE e9 S9 hp with rfl | rfl
    · refine g_catch (cls := IOB) C E htb [] (0, 10, 13, 19) [(0, 10, 17, 21)] rfl (fun z hz => absurd hz List.not_mem_nil) (by decide) (by decide) kl_L_19 kcast_IOB hce hcv hcl ?_
      refine lv_astore (lv' := [(4, .ref q9), (0, .ref (q 0)), (1, .int x1), (2, .int x2), (3, .ref qo)]) C.1 C.2.1 dL_recall_13 hl (by decide) rfl (fun ls hl => ?_)
      refine lv_iconst (v := 1) C.1 C.2.1 dL_recall_15 (by decide) ?_
      exact h_iret (u := (S9, fo)) C hw (Nat.le_of_ble_eq_true rfl) (Nat.le_of_ble_eq_true rfl) (Or.inr ⟨(IOB, S9), hp, by show (1 : Int32) = hcd [IOB, IAE] IOB; decide +kernel, rfl⟩) dL_recall_16
    · refine g_catch (cls := IAE) C E htb [(0, 10, 13, 19)] (0, 10, 17, 21) [] rfl (fun z hz => by rw [List.mem_singleton] at hz; subst hz; exact ⟨by decide, IOB, kl_L_19, E.2.2.1⟩) (by decide) (by decide) kl_L_21 kcast_IAE hce hcv hcl ?_
      refine lv_astore (lv' := [(4, .ref q9), (0, .ref (q 0)), (1, .int x1), (2, .int x2), (3, .ref qo)]) C.1 C.2.1 dL_recall_17 hl (by decide) rfl (fun ls hl => ?_)
      refine lv_iconst (v := 2) C.1 C.2.1 dL_recall_19 (by decide) ?_
      exact h_iret (u := (S9, fo)) C hw (Nat.le_of_ble_eq_true rfl) (Nat.le_of_ble_eq_true rfl) (Or.inr ⟨(IAE, S9), hp, by show (2 : Int32) = hcd [IOB, IAE] IAE; decide +kernel, rfl⟩) dL_recall_20
  · have hp : R1 = Sum.inr (r, u) := hp
    refine lv_i2l (v := Int32.toInt64 r) C.1 C.2.1 dL_recall_8 rfl ?_
    have hw : gW D (hw9 cI cL q qo (S, fo)) (xw cI q u ++ [oc cL qo fo]) s H locs := hw
    refine g_last1 C E hw dL_recall_9 (fun H locs hw => ?_)
    refine lv_goto (tgt := 21) C.1 C.2.1 dL_recall_10 (by decide) ?_
    refine lv_iconst (v := 0) C.1 C.2.1 dL_recall_21 (by decide) ?_
    exact h_iret (u := (u, vp_updL fo 0 (Int32.toInt64 r))) C hw (Nat.le_of_ble_eq_true rfl) (Nat.le_of_ble_eq_true rfl) (Or.inl ⟨r, u, hp, rfl, rfl⟩) dL_recall_22
theorem FH_passNights : FctS0 yL_passNights ∧ Cond.codeWith yL_passNights cL_passNights 4 (some .int) [(0, 9, 12, 21)] ∈ XALL ∧ (parseMethodDescriptor yL_passNights.desc).map (fun d => d.parameters.length) = some 3 := ⟨⟨kt_yL_passNights, by decide +kernel, by decide +kernel⟩, kw_yL_passNights, by decide +kernel⟩
set_option maxHeartbeats 4000000 in
set_option maxRecDepth 100000 in
theorem ctL_passNights (l : Launch) (hT : l.stackTraces = false) {D : va_G} {cI cL : ClassId} {q : Nat → Nat} {qo : Nat} (S : St) (fo : Nat → Int64) (x1 : Int32) (sz : Nat) {R1 : ((String × St) ⊕ (Int32 × St))} (hf : fX3_passNights S x1 = some R1) (hE : ∀ (e : String) (S1 : St), R1 = Sum.inl (e, S1) → e = IAE) : Met l yL_passNights (Cond.codeWith yL_passNights cL_passNights 4 (some .int) [(0, 9, 12, 21)] :: XALL) ({ frames := 8, cells := 1, slots := 6, locals := 133 } : Room) (va_Pc [.ref (q 0), .int x1, .ref qo] (hPre D cI cL (hw9 cI cL q qo (S, fo)) sz)) (hQi D cI cL q qo (S, fo) (fun k u => (∃ (r : Int32) (S1 : St), R1 = Sum.inr (r, S1) ∧ k = 0 ∧ u = (S1, vp_updL fo 0 (Int32.toInt64 r))) ∨ (∃ v : String × St, R1 = Sum.inl v ∧ k = hcd [IAE] v.1 ∧ u = (v.2, fo))) sz) 1 6 (va_A (hw9 cI cL q qo (S, fo)) sz) := by
  refine va_MetW (cc := cL_passNights) (maxL := 4) (ret := (some .int)) (hh := [(0, 9, 12, 21)]) (by decide) rfl ?_
  intro p e s m args below meth c s₁ B hml hv
  obtain ⟨rfl, hg⟩ := hv
  have C : Ctx p s m _ meth c cL_passNights 4 RL (some .int) := Ctx.of B hml rfl
  have htb := CtxH.of B
  obtain ⟨E, hw, hsz, Z⟩ := h_start hg
  subst hsz
  have hl := lv_entry ([.ref (q 0), .int x1, .ref qo]) (n := 4) (Nat.le_of_ble_eq_true rfl)
  rw [lg_entry_eq]
  generalize (lg_sl ([.ref (q 0), .int x1, .ref qo]) ++ List.replicate (4 - (lg_sl ([.ref (q 0), .int x1, .ref qo])).length) Slot.unset).toArray = ls at hl ⊢
  have hl : lv_has ls 4 [(0, .ref (q 0)), (1, .int x1), (2, .ref qo)] := hl
  have hw : gW D (hw9 cI cL q qo (S, fo)) (xw cI q S ++ [oc cL qo fo]) s s.heap [] := hw
  refine lv_aload_n C.1 C.2.1 dL_passNights_0 rfl (lv_at hl 2 rfl) ?_
  refine lv_iconst (v := 0) C.1 C.2.1 dL_passNights_1 (by decide) ?_
  refine lv_aload_n C.1 C.2.1 dL_passNights_2 rfl (lv_at hl 0 rfl) ?_
  refine lv_iload_n C.1 C.2.1 dL_passNights_3 rfl (lv_at hl 1 rfl) ?_
  refine g_hcx (u0 := S) (rest := [.int 0, .ref qo]) hw (g_runHX (As := [.int x1]) (rest := [.int 0, .ref qo]) C E.E hw Z F_X3_passNights rfl (ctX3_passNights l hT (cI := cI) (D := D) (q := q) S x1 _ hf) km_L_39 rfl hl.1 rfl (Nat.le_of_ble_eq_true rfl) ⟨(Nat.le_of_ble_eq_true rfl), (Nat.le_of_ble_eq_true rfl)⟩ ⟨(Nat.le_of_ble_eq_true rfl), (Nat.le_of_ble_eq_true rfl)⟩ dL_passNights_4) (fun v q9 ce H locs hp hw hce hcv hcl => ?_) (fun r u hp H locs hw => ?_)
  · obtain ⟨e9, S9⟩ := v
    have hp : R1 = Sum.inl (e9, S9) := hp
    have hcl : s.vm.findClass e9 = some ce.cls := hcl
    have hw : gW D (hw9 cI cL q qo (S, fo)) (xw cI q S9 ++ [oc cL qo fo]) s H locs := hw
    rcases hE e9 S9 hp with rfl
    · refine g_catch (cls := IAE) C E htb [] (0, 9, 12, 21) [] rfl (fun z hz => absurd hz List.not_mem_nil) (by decide) (by decide) kl_L_21 kcast_IAE hce hcv hcl ?_
      refine lv_astore_n (lv' := [(3, .ref q9), (0, .ref (q 0)), (1, .int x1), (2, .ref qo)]) C.1 C.2.1 dL_passNights_12 rfl hl (by decide) rfl (fun ls hl => ?_)
      refine lv_iconst (v := 1) C.1 C.2.1 dL_passNights_13 (by decide) ?_
      exact h_iret (u := (S9, fo)) C hw (Nat.le_of_ble_eq_true rfl) (Nat.le_of_ble_eq_true rfl) (Or.inr ⟨(IAE, S9), hp, by show (1 : Int32) = hcd [IAE] IAE; decide +kernel, rfl⟩) dL_passNights_14
  · have hp : R1 = Sum.inr (r, u) := hp
    refine lv_i2l (v := Int32.toInt64 r) C.1 C.2.1 dL_passNights_7 rfl ?_
    have hw : gW D (hw9 cI cL q qo (S, fo)) (xw cI q u ++ [oc cL qo fo]) s H locs := hw
    refine g_last1 C E hw dL_passNights_8 (fun H locs hw => ?_)
    refine lv_goto (tgt := 15) C.1 C.2.1 dL_passNights_9 (by decide) ?_
    refine lv_iconst (v := 0) C.1 C.2.1 dL_passNights_15 (by decide) ?_
    exact h_iret (u := (u, vp_updL fo 0 (Int32.toInt64 r))) C hw (Nat.le_of_ble_eq_true rfl) (Nat.le_of_ble_eq_true rfl) (Or.inl ⟨r, u, hp, rfl, rfl⟩) dL_passNights_16
theorem FH_addTagTerm : FctS0 yL_addTagTerm ∧ Cond.codeWith yL_addTagTerm cL_addTagTerm 4 (some .int) [(0, 9, 12, 19), (0, 9, 15, 13)] ∈ XALL ∧ (parseMethodDescriptor yL_addTagTerm.desc).map (fun d => d.parameters.length) = some 3 := ⟨⟨kt_yL_addTagTerm, by decide +kernel, by decide +kernel⟩, kw_yL_addTagTerm, by decide +kernel⟩
set_option maxHeartbeats 4000000 in
set_option maxRecDepth 100000 in
theorem ctL_addTagTerm (l : Launch) (hT : l.stackTraces = false) {D : va_G} {cI cL : ClassId} {q : Nat → Nat} {qo : Nat} (S : St) (fo : Nat → Int64) (x1 : Int32) (sz : Nat) {R1 : ((String × St) ⊕ (Int32 × St))} (hf : fX3_addTagTerm S x1 = some R1) (hE : ∀ (e : String) (S1 : St), R1 = Sum.inl (e, S1) → e = IOB ∨ e = ISE) : Met l yL_addTagTerm (Cond.codeWith yL_addTagTerm cL_addTagTerm 4 (some .int) [(0, 9, 12, 19), (0, 9, 15, 13)] :: XALL) ({ frames := 8, cells := 2, slots := 12, locals := 132 } : Room) (va_Pc [.ref (q 0), .int x1, .ref qo] (hPre D cI cL (hw9 cI cL q qo (S, fo)) sz)) (hQi D cI cL q qo (S, fo) (fun k u => (∃ (r : Int32) (S1 : St), R1 = Sum.inr (r, S1) ∧ k = 0 ∧ u = (S1, vp_updL fo 0 (Int32.toInt64 r))) ∨ (∃ v : String × St, R1 = Sum.inl v ∧ k = hcd [IOB, ISE] v.1 ∧ u = (v.2, fo))) sz) 2 12 (va_A (hw9 cI cL q qo (S, fo)) sz) := by
  refine va_MetW (cc := cL_addTagTerm) (maxL := 4) (ret := (some .int)) (hh := [(0, 9, 12, 19), (0, 9, 15, 13)]) (by decide) rfl ?_
  intro p e s m args below meth c s₁ B hml hv
  obtain ⟨rfl, hg⟩ := hv
  have C : Ctx p s m _ meth c cL_addTagTerm 4 RL (some .int) := Ctx.of B hml rfl
  have htb := CtxH.of B
  obtain ⟨E, hw, hsz, Z⟩ := h_start hg
  subst hsz
  have hl := lv_entry ([.ref (q 0), .int x1, .ref qo]) (n := 4) (Nat.le_of_ble_eq_true rfl)
  rw [lg_entry_eq]
  generalize (lg_sl ([.ref (q 0), .int x1, .ref qo]) ++ List.replicate (4 - (lg_sl ([.ref (q 0), .int x1, .ref qo])).length) Slot.unset).toArray = ls at hl ⊢
  have hl : lv_has ls 4 [(0, .ref (q 0)), (1, .int x1), (2, .ref qo)] := hl
  have hw : gW D (hw9 cI cL q qo (S, fo)) (xw cI q S ++ [oc cL qo fo]) s s.heap [] := hw
  refine lv_aload_n C.1 C.2.1 dL_addTagTerm_0 rfl (lv_at hl 2 rfl) ?_
  refine lv_iconst (v := 0) C.1 C.2.1 dL_addTagTerm_1 (by decide) ?_
  refine lv_aload_n C.1 C.2.1 dL_addTagTerm_2 rfl (lv_at hl 0 rfl) ?_
  refine lv_iload_n C.1 C.2.1 dL_addTagTerm_3 rfl (lv_at hl 1 rfl) ?_
  refine g_hcx (u0 := S) (rest := [.int 0, .ref qo]) hw (g_runHX (As := [.int x1]) (rest := [.int 0, .ref qo]) C E.E hw Z F_X3_addTagTerm rfl (ctX3_addTagTerm l hT (cI := cI) (D := D) (q := q) S x1 _ hf) km_L_42 rfl hl.1 rfl (Nat.le_of_ble_eq_true rfl) ⟨(Nat.le_of_ble_eq_true rfl), (Nat.le_of_ble_eq_true rfl)⟩ ⟨(Nat.le_of_ble_eq_true rfl), (Nat.le_of_ble_eq_true rfl)⟩ dL_addTagTerm_4) (fun v q9 ce H locs hp hw hce hcv hcl => ?_) (fun r u hp H locs hw => ?_)
  · obtain ⟨e9, S9⟩ := v
    have hp : R1 = Sum.inl (e9, S9) := hp
    have hcl : s.vm.findClass e9 = some ce.cls := hcl
    have hw : gW D (hw9 cI cL q qo (S, fo)) (xw cI q S9 ++ [oc cL qo fo]) s H locs := hw
    rcases hE e9 S9 hp with rfl | rfl
    · refine g_catch (cls := IOB) C E htb [] (0, 9, 12, 19) [(0, 9, 15, 13)] rfl (fun z hz => absurd hz List.not_mem_nil) (by decide) (by decide) kl_L_19 kcast_IOB hce hcv hcl ?_
      refine lv_astore_n (lv' := [(3, .ref q9), (0, .ref (q 0)), (1, .int x1), (2, .ref qo)]) C.1 C.2.1 dL_addTagTerm_12 rfl hl (by decide) rfl (fun ls hl => ?_)
      refine lv_iconst (v := 1) C.1 C.2.1 dL_addTagTerm_13 (by decide) ?_
      exact h_iret (u := (S9, fo)) C hw (Nat.le_of_ble_eq_true rfl) (Nat.le_of_ble_eq_true rfl) (Or.inr ⟨(IOB, S9), hp, by show (1 : Int32) = hcd [IOB, ISE] IOB; decide +kernel, rfl⟩) dL_addTagTerm_14
    · refine g_catch (cls := ISE) C E htb [(0, 9, 12, 19)] (0, 9, 15, 13) [] rfl (fun z hz => by rw [List.mem_singleton] at hz; subst hz; exact ⟨by decide, IOB, kl_L_19, E.2.2.2.1⟩) (by decide) (by decide) kl_L_13 kcast_ISE hce hcv hcl ?_
      refine lv_astore_n (lv' := [(3, .ref q9), (0, .ref (q 0)), (1, .int x1), (2, .ref qo)]) C.1 C.2.1 dL_addTagTerm_15 rfl hl (by decide) rfl (fun ls hl => ?_)
      refine lv_iconst (v := 2) C.1 C.2.1 dL_addTagTerm_16 (by decide) ?_
      exact h_iret (u := (S9, fo)) C hw (Nat.le_of_ble_eq_true rfl) (Nat.le_of_ble_eq_true rfl) (Or.inr ⟨(ISE, S9), hp, by show (2 : Int32) = hcd [IOB, ISE] ISE; decide +kernel, rfl⟩) dL_addTagTerm_17
  · have hp : R1 = Sum.inr (r, u) := hp
    refine lv_i2l (v := Int32.toInt64 r) C.1 C.2.1 dL_addTagTerm_7 rfl ?_
    have hw : gW D (hw9 cI cL q qo (S, fo)) (xw cI q u ++ [oc cL qo fo]) s H locs := hw
    refine g_last1 C E hw dL_addTagTerm_8 (fun H locs hw => ?_)
    refine lv_goto (tgt := 18) C.1 C.2.1 dL_addTagTerm_9 (by decide) ?_
    refine lv_iconst (v := 0) C.1 C.2.1 dL_addTagTerm_18 (by decide) ?_
    exact h_iret (u := (u, vp_updL fo 0 (Int32.toInt64 r))) C hw (Nat.le_of_ble_eq_true rfl) (Nat.le_of_ble_eq_true rfl) (Or.inl ⟨r, u, hp, rfl, rfl⟩) dL_addTagTerm_19
theorem FH_addBothTerm : FctS0 yL_addBothTerm ∧ Cond.codeWith yL_addBothTerm cL_addBothTerm 5 (some .int) [(0, 10, 13, 19), (0, 10, 17, 13)] ∈ XALL ∧ (parseMethodDescriptor yL_addBothTerm.desc).map (fun d => d.parameters.length) = some 4 := ⟨⟨kt_yL_addBothTerm, by decide +kernel, by decide +kernel⟩, kw_yL_addBothTerm, by decide +kernel⟩
set_option maxHeartbeats 4000000 in
set_option maxRecDepth 100000 in
theorem ctL_addBothTerm (l : Launch) (hT : l.stackTraces = false) {D : va_G} {cI cL : ClassId} {q : Nat → Nat} {qo : Nat} (S : St) (fo : Nat → Int64) (x1 : Int32) (x2 : Int32) (sz : Nat) {R1 : ((String × St) ⊕ (Int32 × St))} (hf : fX3_addBothTerm S x1 x2 = some R1) (hE : ∀ (e : String) (S1 : St), R1 = Sum.inl (e, S1) → e = IOB ∨ e = ISE) : Met l yL_addBothTerm (Cond.codeWith yL_addBothTerm cL_addBothTerm 5 (some .int) [(0, 10, 13, 19), (0, 10, 17, 13)] :: XALL) ({ frames := 8, cells := 3, slots := 18, locals := 133 } : Room) (va_Pc [.ref (q 0), .int x1, .int x2, .ref qo] (hPre D cI cL (hw9 cI cL q qo (S, fo)) sz)) (hQi D cI cL q qo (S, fo) (fun k u => (∃ (r : Int32) (S1 : St), R1 = Sum.inr (r, S1) ∧ k = 0 ∧ u = (S1, vp_updL fo 0 (Int32.toInt64 r))) ∨ (∃ v : String × St, R1 = Sum.inl v ∧ k = hcd [IOB, ISE] v.1 ∧ u = (v.2, fo))) sz) 3 18 (va_A (hw9 cI cL q qo (S, fo)) sz) := by
  refine va_MetW (cc := cL_addBothTerm) (maxL := 5) (ret := (some .int)) (hh := [(0, 10, 13, 19), (0, 10, 17, 13)]) (by decide) rfl ?_
  intro p e s m args below meth c s₁ B hml hv
  obtain ⟨rfl, hg⟩ := hv
  have C : Ctx p s m _ meth c cL_addBothTerm 5 RL (some .int) := Ctx.of B hml rfl
  have htb := CtxH.of B
  obtain ⟨E, hw, hsz, Z⟩ := h_start hg
  subst hsz
  have hl := lv_entry ([.ref (q 0), .int x1, .int x2, .ref qo]) (n := 5) (Nat.le_of_ble_eq_true rfl)
  rw [lg_entry_eq]
  generalize (lg_sl ([.ref (q 0), .int x1, .int x2, .ref qo]) ++ List.replicate (5 - (lg_sl ([.ref (q 0), .int x1, .int x2, .ref qo])).length) Slot.unset).toArray = ls at hl ⊢
  have hl : lv_has ls 5 [(0, .ref (q 0)), (1, .int x1), (2, .int x2), (3, .ref qo)] := hl
  have hw : gW D (hw9 cI cL q qo (S, fo)) (xw cI q S ++ [oc cL qo fo]) s s.heap [] := hw
  refine lv_aload_n C.1 C.2.1 dL_addBothTerm_0 rfl (lv_at hl 3 rfl) ?_
  refine lv_iconst (v := 0) C.1 C.2.1 dL_addBothTerm_1 (by decide) ?_
  refine lv_aload_n C.1 C.2.1 dL_addBothTerm_2 rfl (lv_at hl 0 rfl) ?_
  refine lv_iload_n C.1 C.2.1 dL_addBothTerm_3 rfl (lv_at hl 1 rfl) ?_
  refine lv_iload_n C.1 C.2.1 dL_addBothTerm_4 rfl (lv_at hl 2 rfl) ?_
  refine g_hcx (u0 := S) (rest := [.int 0, .ref qo]) hw (g_runHX (As := [.int x1, .int x2]) (rest := [.int 0, .ref qo]) C E.E hw Z F_X3_addBothTerm rfl (ctX3_addBothTerm l hT (cI := cI) (D := D) (q := q) S x1 x2 _ hf) km_L_45 rfl hl.1 rfl (Nat.le_of_ble_eq_true rfl) ⟨(Nat.le_of_ble_eq_true rfl), (Nat.le_of_ble_eq_true rfl)⟩ ⟨(Nat.le_of_ble_eq_true rfl), (Nat.le_of_ble_eq_true rfl)⟩ dL_addBothTerm_5) (fun v q9 ce H locs hp hw hce hcv hcl => ?_) (fun r u hp H locs hw => ?_)
  · obtain ⟨e9, S9⟩ := v
    have hp : R1 = Sum.inl (e9, S9) := hp
    have hcl : s.vm.findClass e9 = some ce.cls := hcl
    have hw : gW D (hw9 cI cL q qo (S, fo)) (xw cI q S9 ++ [oc cL qo fo]) s H locs := hw
    rcases hE e9 S9 hp with rfl | rfl
    · refine g_catch (cls := IOB) C E htb [] (0, 10, 13, 19) [(0, 10, 17, 13)] rfl (fun z hz => absurd hz List.not_mem_nil) (by decide) (by decide) kl_L_19 kcast_IOB hce hcv hcl ?_
      refine lv_astore (lv' := [(4, .ref q9), (0, .ref (q 0)), (1, .int x1), (2, .int x2), (3, .ref qo)]) C.1 C.2.1 dL_addBothTerm_13 hl (by decide) rfl (fun ls hl => ?_)
      refine lv_iconst (v := 1) C.1 C.2.1 dL_addBothTerm_15 (by decide) ?_
      exact h_iret (u := (S9, fo)) C hw (Nat.le_of_ble_eq_true rfl) (Nat.le_of_ble_eq_true rfl) (Or.inr ⟨(IOB, S9), hp, by show (1 : Int32) = hcd [IOB, ISE] IOB; decide +kernel, rfl⟩) dL_addBothTerm_16
    · refine g_catch (cls := ISE) C E htb [(0, 10, 13, 19)] (0, 10, 17, 13) [] rfl (fun z hz => by rw [List.mem_singleton] at hz; subst hz; exact ⟨by decide, IOB, kl_L_19, E.2.2.2.1⟩) (by decide) (by decide) kl_L_13 kcast_ISE hce hcv hcl ?_
      refine lv_astore (lv' := [(4, .ref q9), (0, .ref (q 0)), (1, .int x1), (2, .int x2), (3, .ref qo)]) C.1 C.2.1 dL_addBothTerm_17 hl (by decide) rfl (fun ls hl => ?_)
      refine lv_iconst (v := 2) C.1 C.2.1 dL_addBothTerm_19 (by decide) ?_
      exact h_iret (u := (S9, fo)) C hw (Nat.le_of_ble_eq_true rfl) (Nat.le_of_ble_eq_true rfl) (Or.inr ⟨(ISE, S9), hp, by show (2 : Int32) = hcd [IOB, ISE] ISE; decide +kernel, rfl⟩) dL_addBothTerm_20
  · have hp : R1 = Sum.inr (r, u) := hp
    refine lv_i2l (v := Int32.toInt64 r) C.1 C.2.1 dL_addBothTerm_8 rfl ?_
    have hw : gW D (hw9 cI cL q qo (S, fo)) (xw cI q u ++ [oc cL qo fo]) s H locs := hw
    refine g_last1 C E hw dL_addBothTerm_9 (fun H locs hw => ?_)
    refine lv_goto (tgt := 21) C.1 C.2.1 dL_addBothTerm_10 (by decide) ?_
    refine lv_iconst (v := 0) C.1 C.2.1 dL_addBothTerm_21 (by decide) ?_
    exact h_iret (u := (u, vp_updL fo 0 (Int32.toInt64 r))) C hw (Nat.le_of_ble_eq_true rfl) (Nat.le_of_ble_eq_true rfl) (Or.inl ⟨r, u, hp, rfl, rfl⟩) dL_addBothTerm_22
theorem FH_addEitherTerm : FctS0 yL_addEitherTerm ∧ Cond.codeWith yL_addEitherTerm cL_addEitherTerm 5 (some .int) [(0, 10, 13, 19), (0, 10, 17, 13)] ∈ XALL ∧ (parseMethodDescriptor yL_addEitherTerm.desc).map (fun d => d.parameters.length) = some 4 := ⟨⟨kt_yL_addEitherTerm, by decide +kernel, by decide +kernel⟩, kw_yL_addEitherTerm, by decide +kernel⟩
set_option maxHeartbeats 4000000 in
set_option maxRecDepth 100000 in
theorem ctL_addEitherTerm (l : Launch) (hT : l.stackTraces = false) {D : va_G} {cI cL : ClassId} {q : Nat → Nat} {qo : Nat} (S : St) (fo : Nat → Int64) (x1 : Int32) (x2 : Int32) (sz : Nat) {R1 : ((String × St) ⊕ (Int32 × St))} (hf : fX3_addEitherTerm S x1 x2 = some R1) (hE : ∀ (e : String) (S1 : St), R1 = Sum.inl (e, S1) → e = IOB ∨ e = ISE) : Met l yL_addEitherTerm (Cond.codeWith yL_addEitherTerm cL_addEitherTerm 5 (some .int) [(0, 10, 13, 19), (0, 10, 17, 13)] :: XALL) ({ frames := 8, cells := 3, slots := 18, locals := 133 } : Room) (va_Pc [.ref (q 0), .int x1, .int x2, .ref qo] (hPre D cI cL (hw9 cI cL q qo (S, fo)) sz)) (hQi D cI cL q qo (S, fo) (fun k u => (∃ (r : Int32) (S1 : St), R1 = Sum.inr (r, S1) ∧ k = 0 ∧ u = (S1, vp_updL fo 0 (Int32.toInt64 r))) ∨ (∃ v : String × St, R1 = Sum.inl v ∧ k = hcd [IOB, ISE] v.1 ∧ u = (v.2, fo))) sz) 3 18 (va_A (hw9 cI cL q qo (S, fo)) sz) := by
  refine va_MetW (cc := cL_addEitherTerm) (maxL := 5) (ret := (some .int)) (hh := [(0, 10, 13, 19), (0, 10, 17, 13)]) (by decide) rfl ?_
  intro p e s m args below meth c s₁ B hml hv
  obtain ⟨rfl, hg⟩ := hv
  have C : Ctx p s m _ meth c cL_addEitherTerm 5 RL (some .int) := Ctx.of B hml rfl
  have htb := CtxH.of B
  obtain ⟨E, hw, hsz, Z⟩ := h_start hg
  subst hsz
  have hl := lv_entry ([.ref (q 0), .int x1, .int x2, .ref qo]) (n := 5) (Nat.le_of_ble_eq_true rfl)
  rw [lg_entry_eq]
  generalize (lg_sl ([.ref (q 0), .int x1, .int x2, .ref qo]) ++ List.replicate (5 - (lg_sl ([.ref (q 0), .int x1, .int x2, .ref qo])).length) Slot.unset).toArray = ls at hl ⊢
  have hl : lv_has ls 5 [(0, .ref (q 0)), (1, .int x1), (2, .int x2), (3, .ref qo)] := hl
  have hw : gW D (hw9 cI cL q qo (S, fo)) (xw cI q S ++ [oc cL qo fo]) s s.heap [] := hw
  refine lv_aload_n C.1 C.2.1 dL_addEitherTerm_0 rfl (lv_at hl 3 rfl) ?_
  refine lv_iconst (v := 0) C.1 C.2.1 dL_addEitherTerm_1 (by decide) ?_
  refine lv_aload_n C.1 C.2.1 dL_addEitherTerm_2 rfl (lv_at hl 0 rfl) ?_
  refine lv_iload_n C.1 C.2.1 dL_addEitherTerm_3 rfl (lv_at hl 1 rfl) ?_
  refine lv_iload_n C.1 C.2.1 dL_addEitherTerm_4 rfl (lv_at hl 2 rfl) ?_
  refine g_hcx (u0 := S) (rest := [.int 0, .ref qo]) hw (g_runHX (As := [.int x1, .int x2]) (rest := [.int 0, .ref qo]) C E.E hw Z F_X3_addEitherTerm rfl (ctX3_addEitherTerm l hT (cI := cI) (D := D) (q := q) S x1 x2 _ hf) km_L_48 rfl hl.1 rfl (Nat.le_of_ble_eq_true rfl) ⟨(Nat.le_of_ble_eq_true rfl), (Nat.le_of_ble_eq_true rfl)⟩ ⟨(Nat.le_of_ble_eq_true rfl), (Nat.le_of_ble_eq_true rfl)⟩ dL_addEitherTerm_5) (fun v q9 ce H locs hp hw hce hcv hcl => ?_) (fun r u hp H locs hw => ?_)
  · obtain ⟨e9, S9⟩ := v
    have hp : R1 = Sum.inl (e9, S9) := hp
    have hcl : s.vm.findClass e9 = some ce.cls := hcl
    have hw : gW D (hw9 cI cL q qo (S, fo)) (xw cI q S9 ++ [oc cL qo fo]) s H locs := hw
    rcases hE e9 S9 hp with rfl | rfl
    · refine g_catch (cls := IOB) C E htb [] (0, 10, 13, 19) [(0, 10, 17, 13)] rfl (fun z hz => absurd hz List.not_mem_nil) (by decide) (by decide) kl_L_19 kcast_IOB hce hcv hcl ?_
      refine lv_astore (lv' := [(4, .ref q9), (0, .ref (q 0)), (1, .int x1), (2, .int x2), (3, .ref qo)]) C.1 C.2.1 dL_addEitherTerm_13 hl (by decide) rfl (fun ls hl => ?_)
      refine lv_iconst (v := 1) C.1 C.2.1 dL_addEitherTerm_15 (by decide) ?_
      exact h_iret (u := (S9, fo)) C hw (Nat.le_of_ble_eq_true rfl) (Nat.le_of_ble_eq_true rfl) (Or.inr ⟨(IOB, S9), hp, by show (1 : Int32) = hcd [IOB, ISE] IOB; decide +kernel, rfl⟩) dL_addEitherTerm_16
    · refine g_catch (cls := ISE) C E htb [(0, 10, 13, 19)] (0, 10, 17, 13) [] rfl (fun z hz => by rw [List.mem_singleton] at hz; subst hz; exact ⟨by decide, IOB, kl_L_19, E.2.2.2.1⟩) (by decide) (by decide) kl_L_13 kcast_ISE hce hcv hcl ?_
      refine lv_astore (lv' := [(4, .ref q9), (0, .ref (q 0)), (1, .int x1), (2, .int x2), (3, .ref qo)]) C.1 C.2.1 dL_addEitherTerm_17 hl (by decide) rfl (fun ls hl => ?_)
      refine lv_iconst (v := 2) C.1 C.2.1 dL_addEitherTerm_19 (by decide) ?_
      exact h_iret (u := (S9, fo)) C hw (Nat.le_of_ble_eq_true rfl) (Nat.le_of_ble_eq_true rfl) (Or.inr ⟨(ISE, S9), hp, by show (2 : Int32) = hcd [IOB, ISE] ISE; decide +kernel, rfl⟩) dL_addEitherTerm_20
  · have hp : R1 = Sum.inr (r, u) := hp
    refine lv_i2l (v := Int32.toInt64 r) C.1 C.2.1 dL_addEitherTerm_8 rfl ?_
    have hw : gW D (hw9 cI cL q qo (S, fo)) (xw cI q u ++ [oc cL qo fo]) s H locs := hw
    refine g_last1 C E hw dL_addEitherTerm_9 (fun H locs hw => ?_)
    refine lv_goto (tgt := 21) C.1 C.2.1 dL_addEitherTerm_10 (by decide) ?_
    refine lv_iconst (v := 0) C.1 C.2.1 dL_addEitherTerm_21 (by decide) ?_
    exact h_iret (u := (u, vp_updL fo 0 (Int32.toInt64 r))) C hw (Nat.le_of_ble_eq_true rfl) (Nat.le_of_ble_eq_true rfl) (Or.inl ⟨r, u, hp, rfl, rfl⟩) dL_addEitherTerm_22
theorem FH_addWithoutTerm : FctS0 yL_addWithoutTerm ∧ Cond.codeWith yL_addWithoutTerm cL_addWithoutTerm 4 (some .int) [(0, 9, 12, 19), (0, 9, 15, 13)] ∈ XALL ∧ (parseMethodDescriptor yL_addWithoutTerm.desc).map (fun d => d.parameters.length) = some 3 := ⟨⟨kt_yL_addWithoutTerm, by decide +kernel, by decide +kernel⟩, kw_yL_addWithoutTerm, by decide +kernel⟩
set_option maxHeartbeats 4000000 in
set_option maxRecDepth 100000 in
theorem ctL_addWithoutTerm (l : Launch) (hT : l.stackTraces = false) {D : va_G} {cI cL : ClassId} {q : Nat → Nat} {qo : Nat} (S : St) (fo : Nat → Int64) (x1 : Int32) (sz : Nat) {R1 : ((String × St) ⊕ (Int32 × St))} (hf : fX3_addWithoutTerm S x1 = some R1) (hE : ∀ (e : String) (S1 : St), R1 = Sum.inl (e, S1) → e = IOB ∨ e = ISE) : Met l yL_addWithoutTerm (Cond.codeWith yL_addWithoutTerm cL_addWithoutTerm 4 (some .int) [(0, 9, 12, 19), (0, 9, 15, 13)] :: XALL) ({ frames := 8, cells := 2, slots := 12, locals := 132 } : Room) (va_Pc [.ref (q 0), .int x1, .ref qo] (hPre D cI cL (hw9 cI cL q qo (S, fo)) sz)) (hQi D cI cL q qo (S, fo) (fun k u => (∃ (r : Int32) (S1 : St), R1 = Sum.inr (r, S1) ∧ k = 0 ∧ u = (S1, vp_updL fo 0 (Int32.toInt64 r))) ∨ (∃ v : String × St, R1 = Sum.inl v ∧ k = hcd [IOB, ISE] v.1 ∧ u = (v.2, fo))) sz) 2 12 (va_A (hw9 cI cL q qo (S, fo)) sz) := by
  refine va_MetW (cc := cL_addWithoutTerm) (maxL := 4) (ret := (some .int)) (hh := [(0, 9, 12, 19), (0, 9, 15, 13)]) (by decide) rfl ?_
  intro p e s m args below meth c s₁ B hml hv
  obtain ⟨rfl, hg⟩ := hv
  have C : Ctx p s m _ meth c cL_addWithoutTerm 4 RL (some .int) := Ctx.of B hml rfl
  have htb := CtxH.of B
  obtain ⟨E, hw, hsz, Z⟩ := h_start hg
  subst hsz
  have hl := lv_entry ([.ref (q 0), .int x1, .ref qo]) (n := 4) (Nat.le_of_ble_eq_true rfl)
  rw [lg_entry_eq]
  generalize (lg_sl ([.ref (q 0), .int x1, .ref qo]) ++ List.replicate (4 - (lg_sl ([.ref (q 0), .int x1, .ref qo])).length) Slot.unset).toArray = ls at hl ⊢
  have hl : lv_has ls 4 [(0, .ref (q 0)), (1, .int x1), (2, .ref qo)] := hl
  have hw : gW D (hw9 cI cL q qo (S, fo)) (xw cI q S ++ [oc cL qo fo]) s s.heap [] := hw
  refine lv_aload_n C.1 C.2.1 dL_addWithoutTerm_0 rfl (lv_at hl 2 rfl) ?_
  refine lv_iconst (v := 0) C.1 C.2.1 dL_addWithoutTerm_1 (by decide) ?_
  refine lv_aload_n C.1 C.2.1 dL_addWithoutTerm_2 rfl (lv_at hl 0 rfl) ?_
  refine lv_iload_n C.1 C.2.1 dL_addWithoutTerm_3 rfl (lv_at hl 1 rfl) ?_
  refine g_hcx (u0 := S) (rest := [.int 0, .ref qo]) hw (g_runHX (As := [.int x1]) (rest := [.int 0, .ref qo]) C E.E hw Z F_X3_addWithoutTerm rfl (ctX3_addWithoutTerm l hT (cI := cI) (D := D) (q := q) S x1 _ hf) km_L_51 rfl hl.1 rfl (Nat.le_of_ble_eq_true rfl) ⟨(Nat.le_of_ble_eq_true rfl), (Nat.le_of_ble_eq_true rfl)⟩ ⟨(Nat.le_of_ble_eq_true rfl), (Nat.le_of_ble_eq_true rfl)⟩ dL_addWithoutTerm_4) (fun v q9 ce H locs hp hw hce hcv hcl => ?_) (fun r u hp H locs hw => ?_)
  · obtain ⟨e9, S9⟩ := v
    have hp : R1 = Sum.inl (e9, S9) := hp
    have hcl : s.vm.findClass e9 = some ce.cls := hcl
    have hw : gW D (hw9 cI cL q qo (S, fo)) (xw cI q S9 ++ [oc cL qo fo]) s H locs := hw
    rcases hE e9 S9 hp with rfl | rfl
    · refine g_catch (cls := IOB) C E htb [] (0, 9, 12, 19) [(0, 9, 15, 13)] rfl (fun z hz => absurd hz List.not_mem_nil) (by decide) (by decide) kl_L_19 kcast_IOB hce hcv hcl ?_
      refine lv_astore_n (lv' := [(3, .ref q9), (0, .ref (q 0)), (1, .int x1), (2, .ref qo)]) C.1 C.2.1 dL_addWithoutTerm_12 rfl hl (by decide) rfl (fun ls hl => ?_)
      refine lv_iconst (v := 1) C.1 C.2.1 dL_addWithoutTerm_13 (by decide) ?_
      exact h_iret (u := (S9, fo)) C hw (Nat.le_of_ble_eq_true rfl) (Nat.le_of_ble_eq_true rfl) (Or.inr ⟨(IOB, S9), hp, by show (1 : Int32) = hcd [IOB, ISE] IOB; decide +kernel, rfl⟩) dL_addWithoutTerm_14
    · refine g_catch (cls := ISE) C E htb [(0, 9, 12, 19)] (0, 9, 15, 13) [] rfl (fun z hz => by rw [List.mem_singleton] at hz; subst hz; exact ⟨by decide, IOB, kl_L_19, E.2.2.2.1⟩) (by decide) (by decide) kl_L_13 kcast_ISE hce hcv hcl ?_
      refine lv_astore_n (lv' := [(3, .ref q9), (0, .ref (q 0)), (1, .int x1), (2, .ref qo)]) C.1 C.2.1 dL_addWithoutTerm_15 rfl hl (by decide) rfl (fun ls hl => ?_)
      refine lv_iconst (v := 2) C.1 C.2.1 dL_addWithoutTerm_16 (by decide) ?_
      exact h_iret (u := (S9, fo)) C hw (Nat.le_of_ble_eq_true rfl) (Nat.le_of_ble_eq_true rfl) (Or.inr ⟨(ISE, S9), hp, by show (2 : Int32) = hcd [IOB, ISE] ISE; decide +kernel, rfl⟩) dL_addWithoutTerm_17
  · have hp : R1 = Sum.inr (r, u) := hp
    refine lv_i2l (v := Int32.toInt64 r) C.1 C.2.1 dL_addWithoutTerm_7 rfl ?_
    have hw : gW D (hw9 cI cL q qo (S, fo)) (xw cI q u ++ [oc cL qo fo]) s H locs := hw
    refine g_last1 C E hw dL_addWithoutTerm_8 (fun H locs hw => ?_)
    refine lv_goto (tgt := 18) C.1 C.2.1 dL_addWithoutTerm_9 (by decide) ?_
    refine lv_iconst (v := 0) C.1 C.2.1 dL_addWithoutTerm_18 (by decide) ?_
    exact h_iret (u := (u, vp_updL fo 0 (Int32.toInt64 r))) C hw (Nat.le_of_ble_eq_true rfl) (Nat.le_of_ble_eq_true rfl) (Or.inl ⟨r, u, hp, rfl, rfl⟩) dL_addWithoutTerm_19
theorem FH_hasParent : FctS0 yL_hasParent ∧ Cond.codeWith yL_hasParent cL_hasParent 4 (some .int) [(0, 16, 19, 19)] ∈ XALL ∧ (parseMethodDescriptor yL_hasParent.desc).map (fun d => d.parameters.length) = some 3 := ⟨⟨kt_yL_hasParent, by decide +kernel, by decide +kernel⟩, kw_yL_hasParent, by decide +kernel⟩
set_option maxHeartbeats 4000000 in
set_option maxRecDepth 100000 in
theorem ctL_hasParent (l : Launch) (hT : l.stackTraces = false) {D : va_G} {cI cL : ClassId} {q : Nat → Nat} {qo : Nat} (S : St) (fo : Nat → Int64) (x1 : Int32) (sz : Nat) {R1 : ((String) ⊕ (Int32))} (hf : fX3_hasParent S x1 = some R1) (hE : ∀ e : String, R1 = Sum.inl e → e = IOB) : Met l yL_hasParent (Cond.codeWith yL_hasParent cL_hasParent 4 (some .int) [(0, 16, 19, 19)] :: XALL) ({ frames := 8, cells := 1, slots := 6, locals := 132 } : Room) (va_Pc [.ref (q 0), .int x1, .ref qo] (hPre D cI cL (hw9 cI cL q qo (S, fo)) sz)) (hQi D cI cL q qo (S, fo) (fun k u => (∃ r : Int32, R1 = Sum.inr r ∧ k = 0 ∧ u = (S, vp_updL fo 0 (if r = 0 then 0 else 1))) ∨ (∃ e : String, R1 = Sum.inl e ∧ k = hcd [IOB] e ∧ u = (S, fo))) sz) 1 6 (va_A (hw9 cI cL q qo (S, fo)) sz) := by
  refine va_MetW (cc := cL_hasParent) (maxL := 4) (ret := (some .int)) (hh := [(0, 16, 19, 19)]) (by decide) rfl ?_
  intro p e s m args below meth c s₁ B hml hv
  obtain ⟨rfl, hg⟩ := hv
  have C : Ctx p s m _ meth c cL_hasParent 4 RL (some .int) := Ctx.of B hml rfl
  have htb := CtxH.of B
  obtain ⟨E, hw, hsz, Z⟩ := h_start hg
  subst hsz
  have hl := lv_entry ([.ref (q 0), .int x1, .ref qo]) (n := 4) (Nat.le_of_ble_eq_true rfl)
  rw [lg_entry_eq]
  generalize (lg_sl ([.ref (q 0), .int x1, .ref qo]) ++ List.replicate (4 - (lg_sl ([.ref (q 0), .int x1, .ref qo])).length) Slot.unset).toArray = ls at hl ⊢
  have hl : lv_has ls 4 [(0, .ref (q 0)), (1, .int x1), (2, .ref qo)] := hl
  have hw : gW D (hw9 cI cL q qo (S, fo)) (xw cI q S ++ [oc cL qo fo]) s s.heap [] := hw
  refine lv_aload_n C.1 C.2.1 dL_hasParent_0 rfl (lv_at hl 2 rfl) ?_
  refine lv_iconst (v := 0) C.1 C.2.1 dL_hasParent_1 (by decide) ?_
  refine lv_aload_n C.1 C.2.1 dL_hasParent_2 rfl (lv_at hl 0 rfl) ?_
  refine lv_iload_n C.1 C.2.1 dL_hasParent_3 rfl (lv_at hl 1 rfl) ?_
  refine g_hcx (u0 := S) (rest := [.int 0, .ref qo]) hw (g_runHX (As := [.int x1]) (rest := [.int 0, .ref qo]) C E.E hw Z F_X3_hasParent rfl (ctX3_hasParent l hT (cI := cI) (D := D) (q := q) S x1 _ hf) km_L_54 rfl hl.1 rfl (Nat.le_of_ble_eq_true rfl) ⟨(Nat.le_of_ble_eq_true rfl), (Nat.le_of_ble_eq_true rfl)⟩ ⟨(Nat.le_of_ble_eq_true rfl), (Nat.le_of_ble_eq_true rfl)⟩ dL_hasParent_4) (fun v q9 ce H locs hp hw hce hcv hcl => ?_) (fun r u hp H locs hw => ?_)
  · obtain ⟨e9, S9⟩ := v
    obtain ⟨hp, hp2⟩ := hp
    have hp : R1 = Sum.inl e9 := hp
    have hp2 : S9 = S := hp2
    subst hp2
    have hcl : s.vm.findClass e9 = some ce.cls := hcl
    have hw : gW D (hw9 cI cL q qo (S9, fo)) (xw cI q S9 ++ [oc cL qo fo]) s H locs := hw
    rcases hE e9 hp with rfl
    · refine g_catch (cls := IOB) C E htb [] (0, 16, 19, 19) [] rfl (fun z hz => absurd hz List.not_mem_nil) (by decide) (by decide) kl_L_19 kcast_IOB hce hcv hcl ?_
      refine lv_astore_n (lv' := [(3, .ref q9), (0, .ref (q 0)), (1, .int x1), (2, .ref qo)]) C.1 C.2.1 dL_hasParent_19 rfl hl (by decide) rfl (fun ls hl => ?_)
      refine lv_iconst (v := 1) C.1 C.2.1 dL_hasParent_20 (by decide) ?_
      exact h_iret (u := (S9, fo)) C hw (Nat.le_of_ble_eq_true rfl) (Nat.le_of_ble_eq_true rfl) (Or.inr ⟨IOB, hp, by show (1 : Int32) = hcd [IOB] IOB; decide +kernel, rfl⟩) dL_hasParent_21
  · obtain ⟨hp, hp2⟩ := hp
    have hp2 : u = S := hp2
    subst hp2
    have hw : gW D (hw9 cI cL q qo (u, fo)) (xw cI q u ++ [oc cL qo fo]) s H locs := hw
    refine lv_if_eq (tgt := 14) C.1 C.2.1 dL_hasParent_7 (by decide) (fun hc => ?_) (fun hc => ?_)
    · refine lv_lconst (v := 0) C.1 C.2.1 dL_hasParent_14 (by decide) ?_
      refine g_last1 C E hw dL_hasParent_15 (fun H locs hw => ?_)
      refine lv_goto (tgt := 22) C.1 C.2.1 dL_hasParent_16 (by decide) ?_
      refine lv_iconst (v := 0) C.1 C.2.1 dL_hasParent_22 (by decide) ?_
      exact h_iret (u := (u, vp_updL fo 0 0)) C hw (Nat.le_of_ble_eq_true rfl) (Nat.le_of_ble_eq_true rfl) (Or.inl ⟨r, hp, rfl, by rw [if_pos hc]⟩) dL_hasParent_23
    · refine lv_lconst (v := 1) C.1 C.2.1 dL_hasParent_10 (by decide) ?_
      refine lv_goto (tgt := 15) C.1 C.2.1 dL_hasParent_11 (by decide) ?_
      refine g_last1 C E hw dL_hasParent_15 (fun H locs hw => ?_)
      refine lv_goto (tgt := 22) C.1 C.2.1 dL_hasParent_16 (by decide) ?_
      refine lv_iconst (v := 0) C.1 C.2.1 dL_hasParent_22 (by decide) ?_
      exact h_iret (u := (u, vp_updL fo 0 1)) C hw (Nat.le_of_ble_eq_true rfl) (Nat.le_of_ble_eq_true rfl) (Or.inl ⟨r, hp, rfl, by rw [if_neg hc]⟩) dL_hasParent_23
theorem FH_parentOf : FctS0 yL_parentOf ∧ Cond.codeWith yL_parentOf cL_parentOf 4 (some .int) [(0, 9, 12, 19), (0, 9, 15, 13)] ∈ XALL ∧ (parseMethodDescriptor yL_parentOf.desc).map (fun d => d.parameters.length) = some 3 := ⟨⟨kt_yL_parentOf, by decide +kernel, by decide +kernel⟩, kw_yL_parentOf, by decide +kernel⟩
set_option maxHeartbeats 4000000 in
set_option maxRecDepth 100000 in
theorem ctL_parentOf (l : Launch) (hT : l.stackTraces = false) {D : va_G} {cI cL : ClassId} {q : Nat → Nat} {qo : Nat} (S : St) (fo : Nat → Int64) (x1 : Int32) (sz : Nat) {R1 : ((String) ⊕ (Int32))} (hf : fX3_parentOf S x1 = some R1) (hE : ∀ e : String, R1 = Sum.inl e → e = IOB ∨ e = ISE) : Met l yL_parentOf (Cond.codeWith yL_parentOf cL_parentOf 4 (some .int) [(0, 9, 12, 19), (0, 9, 15, 13)] :: XALL) ({ frames := 9, cells := 2, slots := 12, locals := 153 } : Room) (va_Pc [.ref (q 0), .int x1, .ref qo] (hPre D cI cL (hw9 cI cL q qo (S, fo)) sz)) (hQi D cI cL q qo (S, fo) (fun k u => (∃ r : Int32, R1 = Sum.inr r ∧ k = 0 ∧ u = (S, vp_updL fo 0 (Int32.toInt64 r))) ∨ (∃ e : String, R1 = Sum.inl e ∧ k = hcd [IOB, ISE] e ∧ u = (S, fo))) sz) 2 12 (va_A (hw9 cI cL q qo (S, fo)) sz) := by
  refine va_MetW (cc := cL_parentOf) (maxL := 4) (ret := (some .int)) (hh := [(0, 9, 12, 19), (0, 9, 15, 13)]) (by decide) rfl ?_
  intro p e s m args below meth c s₁ B hml hv
  obtain ⟨rfl, hg⟩ := hv
  have C : Ctx p s m _ meth c cL_parentOf 4 RL (some .int) := Ctx.of B hml rfl
  have htb := CtxH.of B
  obtain ⟨E, hw, hsz, Z⟩ := h_start hg
  subst hsz
  have hl := lv_entry ([.ref (q 0), .int x1, .ref qo]) (n := 4) (Nat.le_of_ble_eq_true rfl)
  rw [lg_entry_eq]
  generalize (lg_sl ([.ref (q 0), .int x1, .ref qo]) ++ List.replicate (4 - (lg_sl ([.ref (q 0), .int x1, .ref qo])).length) Slot.unset).toArray = ls at hl ⊢
  have hl : lv_has ls 4 [(0, .ref (q 0)), (1, .int x1), (2, .ref qo)] := hl
  have hw : gW D (hw9 cI cL q qo (S, fo)) (xw cI q S ++ [oc cL qo fo]) s s.heap [] := hw
  refine lv_aload_n C.1 C.2.1 dL_parentOf_0 rfl (lv_at hl 2 rfl) ?_
  refine lv_iconst (v := 0) C.1 C.2.1 dL_parentOf_1 (by decide) ?_
  refine lv_aload_n C.1 C.2.1 dL_parentOf_2 rfl (lv_at hl 0 rfl) ?_
  refine lv_iload_n C.1 C.2.1 dL_parentOf_3 rfl (lv_at hl 1 rfl) ?_
  refine g_hcx (u0 := S) (rest := [.int 0, .ref qo]) hw (g_runHX (As := [.int x1]) (rest := [.int 0, .ref qo]) C E.E hw Z F_X3_parentOf rfl (ctX3_parentOf l hT (cI := cI) (D := D) (q := q) S x1 _ hf) km_L_58 rfl hl.1 rfl (Nat.le_of_ble_eq_true rfl) ⟨(Nat.le_of_ble_eq_true rfl), (Nat.le_of_ble_eq_true rfl)⟩ ⟨(Nat.le_of_ble_eq_true rfl), (Nat.le_of_ble_eq_true rfl)⟩ dL_parentOf_4) (fun v q9 ce H locs hp hw hce hcv hcl => ?_) (fun r u hp H locs hw => ?_)
  · obtain ⟨e9, S9⟩ := v
    obtain ⟨hp, hp2⟩ := hp
    have hp : R1 = Sum.inl e9 := hp
    have hp2 : S9 = S := hp2
    subst hp2
    have hcl : s.vm.findClass e9 = some ce.cls := hcl
    have hw : gW D (hw9 cI cL q qo (S9, fo)) (xw cI q S9 ++ [oc cL qo fo]) s H locs := hw
    rcases hE e9 hp with rfl | rfl
    · refine g_catch (cls := IOB) C E htb [] (0, 9, 12, 19) [(0, 9, 15, 13)] rfl (fun z hz => absurd hz List.not_mem_nil) (by decide) (by decide) kl_L_19 kcast_IOB hce hcv hcl ?_
      refine lv_astore_n (lv' := [(3, .ref q9), (0, .ref (q 0)), (1, .int x1), (2, .ref qo)]) C.1 C.2.1 dL_parentOf_12 rfl hl (by decide) rfl (fun ls hl => ?_)
      refine lv_iconst (v := 1) C.1 C.2.1 dL_parentOf_13 (by decide) ?_
      exact h_iret (u := (S9, fo)) C hw (Nat.le_of_ble_eq_true rfl) (Nat.le_of_ble_eq_true rfl) (Or.inr ⟨IOB, hp, by show (1 : Int32) = hcd [IOB, ISE] IOB; decide +kernel, rfl⟩) dL_parentOf_14
    · refine g_catch (cls := ISE) C E htb [(0, 9, 12, 19)] (0, 9, 15, 13) [] rfl (fun z hz => by rw [List.mem_singleton] at hz; subst hz; exact ⟨by decide, IOB, kl_L_19, E.2.2.2.1⟩) (by decide) (by decide) kl_L_13 kcast_ISE hce hcv hcl ?_
      refine lv_astore_n (lv' := [(3, .ref q9), (0, .ref (q 0)), (1, .int x1), (2, .ref qo)]) C.1 C.2.1 dL_parentOf_15 rfl hl (by decide) rfl (fun ls hl => ?_)
      refine lv_iconst (v := 2) C.1 C.2.1 dL_parentOf_16 (by decide) ?_
      exact h_iret (u := (S9, fo)) C hw (Nat.le_of_ble_eq_true rfl) (Nat.le_of_ble_eq_true rfl) (Or.inr ⟨ISE, hp, by show (2 : Int32) = hcd [IOB, ISE] ISE; decide +kernel, rfl⟩) dL_parentOf_17
  · obtain ⟨hp, hp2⟩ := hp
    have hp2 : u = S := hp2
    subst hp2
    refine lv_i2l (v := Int32.toInt64 r) C.1 C.2.1 dL_parentOf_7 rfl ?_
    have hw : gW D (hw9 cI cL q qo (u, fo)) (xw cI q u ++ [oc cL qo fo]) s H locs := hw
    refine g_last1 C E hw dL_parentOf_8 (fun H locs hw => ?_)
    refine lv_goto (tgt := 18) C.1 C.2.1 dL_parentOf_9 (by decide) ?_
    refine lv_iconst (v := 0) C.1 C.2.1 dL_parentOf_18 (by decide) ?_
    exact h_iret (u := (u, vp_updL fo 0 (Int32.toInt64 r))) C hw (Nat.le_of_ble_eq_true rfl) (Nat.le_of_ble_eq_true rfl) (Or.inl ⟨r, hp, rfl, rfl⟩) dL_parentOf_19
theorem FH_tagsAbove : FctS0 yL_tagsAbove ∧ Cond.codeWith yL_tagsAbove cL_tagsAbove 4 (some .int) [(0, 9, 12, 19)] ∈ XALL ∧ (parseMethodDescriptor yL_tagsAbove.desc).map (fun d => d.parameters.length) = some 3 := ⟨⟨kt_yL_tagsAbove, by decide +kernel, by decide +kernel⟩, kw_yL_tagsAbove, by decide +kernel⟩
set_option maxHeartbeats 4000000 in
set_option maxRecDepth 100000 in
theorem ctL_tagsAbove (l : Launch) (hT : l.stackTraces = false) {D : va_G} {cI cL : ClassId} {q : Nat → Nat} {qo : Nat} (S : St) (fo : Nat → Int64) (x1 : Int32) (sz : Nat) {R1 : ((String) ⊕ (Int32))} (hf : fX3_tagsAbove S x1 = some R1) (hE : ∀ e : String, R1 = Sum.inl e → e = IOB) : Met l yL_tagsAbove (Cond.codeWith yL_tagsAbove cL_tagsAbove 4 (some .int) [(0, 9, 12, 19)] :: XALL) ({ frames := 8, cells := 1, slots := 6, locals := 132 } : Room) (va_Pc [.ref (q 0), .int x1, .ref qo] (hPre D cI cL (hw9 cI cL q qo (S, fo)) sz)) (hQi D cI cL q qo (S, fo) (fun k u => (∃ r : Int32, R1 = Sum.inr r ∧ k = 0 ∧ u = (S, vp_updL fo 0 (Int32.toInt64 r))) ∨ (∃ e : String, R1 = Sum.inl e ∧ k = hcd [IOB] e ∧ u = (S, fo))) sz) 1 6 (va_A (hw9 cI cL q qo (S, fo)) sz) := by
  refine va_MetW (cc := cL_tagsAbove) (maxL := 4) (ret := (some .int)) (hh := [(0, 9, 12, 19)]) (by decide) rfl ?_
  intro p e s m args below meth c s₁ B hml hv
  obtain ⟨rfl, hg⟩ := hv
  have C : Ctx p s m _ meth c cL_tagsAbove 4 RL (some .int) := Ctx.of B hml rfl
  have htb := CtxH.of B
  obtain ⟨E, hw, hsz, Z⟩ := h_start hg
  subst hsz
  have hl := lv_entry ([.ref (q 0), .int x1, .ref qo]) (n := 4) (Nat.le_of_ble_eq_true rfl)
  rw [lg_entry_eq]
  generalize (lg_sl ([.ref (q 0), .int x1, .ref qo]) ++ List.replicate (4 - (lg_sl ([.ref (q 0), .int x1, .ref qo])).length) Slot.unset).toArray = ls at hl ⊢
  have hl : lv_has ls 4 [(0, .ref (q 0)), (1, .int x1), (2, .ref qo)] := hl
  have hw : gW D (hw9 cI cL q qo (S, fo)) (xw cI q S ++ [oc cL qo fo]) s s.heap [] := hw
  refine lv_aload_n C.1 C.2.1 dL_tagsAbove_0 rfl (lv_at hl 2 rfl) ?_
  refine lv_iconst (v := 0) C.1 C.2.1 dL_tagsAbove_1 (by decide) ?_
  refine lv_aload_n C.1 C.2.1 dL_tagsAbove_2 rfl (lv_at hl 0 rfl) ?_
  refine lv_iload_n C.1 C.2.1 dL_tagsAbove_3 rfl (lv_at hl 1 rfl) ?_
  refine g_hcx (u0 := S) (rest := [.int 0, .ref qo]) hw (g_runHX (As := [.int x1]) (rest := [.int 0, .ref qo]) C E.E hw Z F_X3_tagsAbove rfl (ctX3_tagsAbove l hT (cI := cI) (D := D) (q := q) S x1 _ hf) km_L_61 rfl hl.1 rfl (Nat.le_of_ble_eq_true rfl) ⟨(Nat.le_of_ble_eq_true rfl), (Nat.le_of_ble_eq_true rfl)⟩ ⟨(Nat.le_of_ble_eq_true rfl), (Nat.le_of_ble_eq_true rfl)⟩ dL_tagsAbove_4) (fun v q9 ce H locs hp hw hce hcv hcl => ?_) (fun r u hp H locs hw => ?_)
  · obtain ⟨e9, S9⟩ := v
    obtain ⟨hp, hp2⟩ := hp
    have hp : R1 = Sum.inl e9 := hp
    have hp2 : S9 = S := hp2
    subst hp2
    have hcl : s.vm.findClass e9 = some ce.cls := hcl
    have hw : gW D (hw9 cI cL q qo (S9, fo)) (xw cI q S9 ++ [oc cL qo fo]) s H locs := hw
    rcases hE e9 hp with rfl
    · refine g_catch (cls := IOB) C E htb [] (0, 9, 12, 19) [] rfl (fun z hz => absurd hz List.not_mem_nil) (by decide) (by decide) kl_L_19 kcast_IOB hce hcv hcl ?_
      refine lv_astore_n (lv' := [(3, .ref q9), (0, .ref (q 0)), (1, .int x1), (2, .ref qo)]) C.1 C.2.1 dL_tagsAbove_12 rfl hl (by decide) rfl (fun ls hl => ?_)
      refine lv_iconst (v := 1) C.1 C.2.1 dL_tagsAbove_13 (by decide) ?_
      exact h_iret (u := (S9, fo)) C hw (Nat.le_of_ble_eq_true rfl) (Nat.le_of_ble_eq_true rfl) (Or.inr ⟨IOB, hp, by show (1 : Int32) = hcd [IOB] IOB; decide +kernel, rfl⟩) dL_tagsAbove_14
  · obtain ⟨hp, hp2⟩ := hp
    have hp2 : u = S := hp2
    subst hp2
    refine lv_i2l (v := Int32.toInt64 r) C.1 C.2.1 dL_tagsAbove_7 rfl ?_
    have hw : gW D (hw9 cI cL q qo (u, fo)) (xw cI q u ++ [oc cL qo fo]) s H locs := hw
    refine g_last1 C E hw dL_tagsAbove_8 (fun H locs hw => ?_)
    refine lv_goto (tgt := 15) C.1 C.2.1 dL_tagsAbove_9 (by decide) ?_
    refine lv_iconst (v := 0) C.1 C.2.1 dL_tagsAbove_15 (by decide) ?_
    exact h_iret (u := (u, vp_updL fo 0 (Int32.toInt64 r))) C hw (Nat.le_of_ble_eq_true rfl) (Nat.le_of_ble_eq_true rfl) (Or.inl ⟨r, hp, rfl, rfl⟩) dL_tagsAbove_16
theorem FH_tagsBelow : FctS0 yL_tagsBelow ∧ Cond.codeWith yL_tagsBelow cL_tagsBelow 4 (some .int) [(0, 9, 12, 19)] ∈ XALL ∧ (parseMethodDescriptor yL_tagsBelow.desc).map (fun d => d.parameters.length) = some 3 := ⟨⟨kt_yL_tagsBelow, by decide +kernel, by decide +kernel⟩, kw_yL_tagsBelow, by decide +kernel⟩
set_option maxHeartbeats 4000000 in
set_option maxRecDepth 100000 in
theorem ctL_tagsBelow (l : Launch) (hT : l.stackTraces = false) {D : va_G} {cI cL : ClassId} {q : Nat → Nat} {qo : Nat} (S : St) (fo : Nat → Int64) (x1 : Int32) (sz : Nat) {R1 : ((String) ⊕ (Int32))} (hf : fX3_tagsBelow S x1 = some R1) (hE : ∀ e : String, R1 = Sum.inl e → e = IOB) : Met l yL_tagsBelow (Cond.codeWith yL_tagsBelow cL_tagsBelow 4 (some .int) [(0, 9, 12, 19)] :: XALL) ({ frames := 8, cells := 1, slots := 6, locals := 132 } : Room) (va_Pc [.ref (q 0), .int x1, .ref qo] (hPre D cI cL (hw9 cI cL q qo (S, fo)) sz)) (hQi D cI cL q qo (S, fo) (fun k u => (∃ r : Int32, R1 = Sum.inr r ∧ k = 0 ∧ u = (S, vp_updL fo 0 (Int32.toInt64 r))) ∨ (∃ e : String, R1 = Sum.inl e ∧ k = hcd [IOB] e ∧ u = (S, fo))) sz) 1 6 (va_A (hw9 cI cL q qo (S, fo)) sz) := by
  refine va_MetW (cc := cL_tagsBelow) (maxL := 4) (ret := (some .int)) (hh := [(0, 9, 12, 19)]) (by decide) rfl ?_
  intro p e s m args below meth c s₁ B hml hv
  obtain ⟨rfl, hg⟩ := hv
  have C : Ctx p s m _ meth c cL_tagsBelow 4 RL (some .int) := Ctx.of B hml rfl
  have htb := CtxH.of B
  obtain ⟨E, hw, hsz, Z⟩ := h_start hg
  subst hsz
  have hl := lv_entry ([.ref (q 0), .int x1, .ref qo]) (n := 4) (Nat.le_of_ble_eq_true rfl)
  rw [lg_entry_eq]
  generalize (lg_sl ([.ref (q 0), .int x1, .ref qo]) ++ List.replicate (4 - (lg_sl ([.ref (q 0), .int x1, .ref qo])).length) Slot.unset).toArray = ls at hl ⊢
  have hl : lv_has ls 4 [(0, .ref (q 0)), (1, .int x1), (2, .ref qo)] := hl
  have hw : gW D (hw9 cI cL q qo (S, fo)) (xw cI q S ++ [oc cL qo fo]) s s.heap [] := hw
  refine lv_aload_n C.1 C.2.1 dL_tagsBelow_0 rfl (lv_at hl 2 rfl) ?_
  refine lv_iconst (v := 0) C.1 C.2.1 dL_tagsBelow_1 (by decide) ?_
  refine lv_aload_n C.1 C.2.1 dL_tagsBelow_2 rfl (lv_at hl 0 rfl) ?_
  refine lv_iload_n C.1 C.2.1 dL_tagsBelow_3 rfl (lv_at hl 1 rfl) ?_
  refine g_hcx (u0 := S) (rest := [.int 0, .ref qo]) hw (g_runHX (As := [.int x1]) (rest := [.int 0, .ref qo]) C E.E hw Z F_X3_tagsBelow rfl (ctX3_tagsBelow l hT (cI := cI) (D := D) (q := q) S x1 _ hf) km_L_64 rfl hl.1 rfl (Nat.le_of_ble_eq_true rfl) ⟨(Nat.le_of_ble_eq_true rfl), (Nat.le_of_ble_eq_true rfl)⟩ ⟨(Nat.le_of_ble_eq_true rfl), (Nat.le_of_ble_eq_true rfl)⟩ dL_tagsBelow_4) (fun v q9 ce H locs hp hw hce hcv hcl => ?_) (fun r u hp H locs hw => ?_)
  · obtain ⟨e9, S9⟩ := v
    obtain ⟨hp, hp2⟩ := hp
    have hp : R1 = Sum.inl e9 := hp
    have hp2 : S9 = S := hp2
    subst hp2
    have hcl : s.vm.findClass e9 = some ce.cls := hcl
    have hw : gW D (hw9 cI cL q qo (S9, fo)) (xw cI q S9 ++ [oc cL qo fo]) s H locs := hw
    rcases hE e9 hp with rfl
    · refine g_catch (cls := IOB) C E htb [] (0, 9, 12, 19) [] rfl (fun z hz => absurd hz List.not_mem_nil) (by decide) (by decide) kl_L_19 kcast_IOB hce hcv hcl ?_
      refine lv_astore_n (lv' := [(3, .ref q9), (0, .ref (q 0)), (1, .int x1), (2, .ref qo)]) C.1 C.2.1 dL_tagsBelow_12 rfl hl (by decide) rfl (fun ls hl => ?_)
      refine lv_iconst (v := 1) C.1 C.2.1 dL_tagsBelow_13 (by decide) ?_
      exact h_iret (u := (S9, fo)) C hw (Nat.le_of_ble_eq_true rfl) (Nat.le_of_ble_eq_true rfl) (Or.inr ⟨IOB, hp, by show (1 : Int32) = hcd [IOB] IOB; decide +kernel, rfl⟩) dL_tagsBelow_14
  · obtain ⟨hp, hp2⟩ := hp
    have hp2 : u = S := hp2
    subst hp2
    refine lv_i2l (v := Int32.toInt64 r) C.1 C.2.1 dL_tagsBelow_7 rfl ?_
    have hw : gW D (hw9 cI cL q qo (u, fo)) (xw cI q u ++ [oc cL qo fo]) s H locs := hw
    refine g_last1 C E hw dL_tagsBelow_8 (fun H locs hw => ?_)
    refine lv_goto (tgt := 15) C.1 C.2.1 dL_tagsBelow_9 (by decide) ?_
    refine lv_iconst (v := 0) C.1 C.2.1 dL_tagsBelow_15 (by decide) ?_
    exact h_iret (u := (u, vp_updL fo 0 (Int32.toInt64 r))) C hw (Nat.le_of_ble_eq_true rfl) (Nat.le_of_ble_eq_true rfl) (Or.inl ⟨r, hp, rfl, rfl⟩) dL_tagsBelow_16
theorem FH_isBelow : FctS0 yL_isBelow ∧ Cond.codeWith yL_isBelow cL_isBelow 5 (some .int) [(0, 17, 20, 19)] ∈ XALL ∧ (parseMethodDescriptor yL_isBelow.desc).map (fun d => d.parameters.length) = some 4 := ⟨⟨kt_yL_isBelow, by decide +kernel, by decide +kernel⟩, kw_yL_isBelow, by decide +kernel⟩
set_option maxHeartbeats 4000000 in
set_option maxRecDepth 100000 in
theorem ctL_isBelow (l : Launch) (hT : l.stackTraces = false) {D : va_G} {cI cL : ClassId} {q : Nat → Nat} {qo : Nat} (S : St) (fo : Nat → Int64) (x1 : Int32) (x2 : Int32) (sz : Nat) {R1 : ((String) ⊕ (Int32))} (hf : fX3_isBelow S x1 x2 = some R1) (hE : ∀ e : String, R1 = Sum.inl e → e = IOB) : Met l yL_isBelow (Cond.codeWith yL_isBelow cL_isBelow 5 (some .int) [(0, 17, 20, 19)] :: XALL) ({ frames := 8, cells := 2, slots := 12, locals := 133 } : Room) (va_Pc [.ref (q 0), .int x1, .int x2, .ref qo] (hPre D cI cL (hw9 cI cL q qo (S, fo)) sz)) (hQi D cI cL q qo (S, fo) (fun k u => (∃ r : Int32, R1 = Sum.inr r ∧ k = 0 ∧ u = (S, vp_updL fo 0 (if r = 0 then 0 else 1))) ∨ (∃ e : String, R1 = Sum.inl e ∧ k = hcd [IOB] e ∧ u = (S, fo))) sz) 2 12 (va_A (hw9 cI cL q qo (S, fo)) sz) := by
  refine va_MetW (cc := cL_isBelow) (maxL := 5) (ret := (some .int)) (hh := [(0, 17, 20, 19)]) (by decide) rfl ?_
  intro p e s m args below meth c s₁ B hml hv
  obtain ⟨rfl, hg⟩ := hv
  have C : Ctx p s m _ meth c cL_isBelow 5 RL (some .int) := Ctx.of B hml rfl
  have htb := CtxH.of B
  obtain ⟨E, hw, hsz, Z⟩ := h_start hg
  subst hsz
  have hl := lv_entry ([.ref (q 0), .int x1, .int x2, .ref qo]) (n := 5) (Nat.le_of_ble_eq_true rfl)
  rw [lg_entry_eq]
  generalize (lg_sl ([.ref (q 0), .int x1, .int x2, .ref qo]) ++ List.replicate (5 - (lg_sl ([.ref (q 0), .int x1, .int x2, .ref qo])).length) Slot.unset).toArray = ls at hl ⊢
  have hl : lv_has ls 5 [(0, .ref (q 0)), (1, .int x1), (2, .int x2), (3, .ref qo)] := hl
  have hw : gW D (hw9 cI cL q qo (S, fo)) (xw cI q S ++ [oc cL qo fo]) s s.heap [] := hw
  refine lv_aload_n C.1 C.2.1 dL_isBelow_0 rfl (lv_at hl 3 rfl) ?_
  refine lv_iconst (v := 0) C.1 C.2.1 dL_isBelow_1 (by decide) ?_
  refine lv_aload_n C.1 C.2.1 dL_isBelow_2 rfl (lv_at hl 0 rfl) ?_
  refine lv_iload_n C.1 C.2.1 dL_isBelow_3 rfl (lv_at hl 1 rfl) ?_
  refine lv_iload_n C.1 C.2.1 dL_isBelow_4 rfl (lv_at hl 2 rfl) ?_
  refine g_hcx (u0 := S) (rest := [.int 0, .ref qo]) hw (g_runHX (As := [.int x1, .int x2]) (rest := [.int 0, .ref qo]) C E.E hw Z F_X3_isBelow rfl (ctX3_isBelow l hT (cI := cI) (D := D) (q := q) S x1 x2 _ hf) km_L_67 rfl hl.1 rfl (Nat.le_of_ble_eq_true rfl) ⟨(Nat.le_of_ble_eq_true rfl), (Nat.le_of_ble_eq_true rfl)⟩ ⟨(Nat.le_of_ble_eq_true rfl), (Nat.le_of_ble_eq_true rfl)⟩ dL_isBelow_5) (fun v q9 ce H locs hp hw hce hcv hcl => ?_) (fun r u hp H locs hw => ?_)
  · obtain ⟨e9, S9⟩ := v
    obtain ⟨hp, hp2⟩ := hp
    have hp : R1 = Sum.inl e9 := hp
    have hp2 : S9 = S := hp2
    subst hp2
    have hcl : s.vm.findClass e9 = some ce.cls := hcl
    have hw : gW D (hw9 cI cL q qo (S9, fo)) (xw cI q S9 ++ [oc cL qo fo]) s H locs := hw
    rcases hE e9 hp with rfl
    · refine g_catch (cls := IOB) C E htb [] (0, 17, 20, 19) [] rfl (fun z hz => absurd hz List.not_mem_nil) (by decide) (by decide) kl_L_19 kcast_IOB hce hcv hcl ?_
      refine lv_astore (lv' := [(4, .ref q9), (0, .ref (q 0)), (1, .int x1), (2, .int x2), (3, .ref qo)]) C.1 C.2.1 dL_isBelow_20 hl (by decide) rfl (fun ls hl => ?_)
      refine lv_iconst (v := 1) C.1 C.2.1 dL_isBelow_22 (by decide) ?_
      exact h_iret (u := (S9, fo)) C hw (Nat.le_of_ble_eq_true rfl) (Nat.le_of_ble_eq_true rfl) (Or.inr ⟨IOB, hp, by show (1 : Int32) = hcd [IOB] IOB; decide +kernel, rfl⟩) dL_isBelow_23
  · obtain ⟨hp, hp2⟩ := hp
    have hp2 : u = S := hp2
    subst hp2
    have hw : gW D (hw9 cI cL q qo (u, fo)) (xw cI q u ++ [oc cL qo fo]) s H locs := hw
    refine lv_if_eq (tgt := 15) C.1 C.2.1 dL_isBelow_8 (by decide) (fun hc => ?_) (fun hc => ?_)
    · refine lv_lconst (v := 0) C.1 C.2.1 dL_isBelow_15 (by decide) ?_
      refine g_last1 C E hw dL_isBelow_16 (fun H locs hw => ?_)
      refine lv_goto (tgt := 24) C.1 C.2.1 dL_isBelow_17 (by decide) ?_
      refine lv_iconst (v := 0) C.1 C.2.1 dL_isBelow_24 (by decide) ?_
      exact h_iret (u := (u, vp_updL fo 0 0)) C hw (Nat.le_of_ble_eq_true rfl) (Nat.le_of_ble_eq_true rfl) (Or.inl ⟨r, hp, rfl, by rw [if_pos hc]⟩) dL_isBelow_25
    · refine lv_lconst (v := 1) C.1 C.2.1 dL_isBelow_11 (by decide) ?_
      refine lv_goto (tgt := 16) C.1 C.2.1 dL_isBelow_12 (by decide) ?_
      refine g_last1 C E hw dL_isBelow_16 (fun H locs hw => ?_)
      refine lv_goto (tgt := 24) C.1 C.2.1 dL_isBelow_17 (by decide) ?_
      refine lv_iconst (v := 0) C.1 C.2.1 dL_isBelow_24 (by decide) ?_
      exact h_iret (u := (u, vp_updL fo 0 1)) C hw (Nat.le_of_ble_eq_true rfl) (Nat.le_of_ble_eq_true rfl) (Or.inl ⟨r, hp, rfl, by rw [if_neg hc]⟩) dL_isBelow_25
theorem FH_nearestAbove : FctS0 yL_nearestAbove ∧ Cond.codeWith yL_nearestAbove cL_nearestAbove 5 (some .int) [(0, 10, 13, 19)] ∈ XALL ∧ (parseMethodDescriptor yL_nearestAbove.desc).map (fun d => d.parameters.length) = some 4 := ⟨⟨kt_yL_nearestAbove, by decide +kernel, by decide +kernel⟩, kw_yL_nearestAbove, by decide +kernel⟩
set_option maxHeartbeats 4000000 in
set_option maxRecDepth 100000 in
theorem ctL_nearestAbove (l : Launch) (hT : l.stackTraces = false) {D : va_G} {cI cL : ClassId} {q : Nat → Nat} {qo : Nat} (S : St) (fo : Nat → Int64) (x1 : Int32) (x2 : Int32) (sz : Nat) {R1 : ((String) ⊕ (Int32))} (hf : fX3_nearestAbove S x1 x2 = some R1) (hE : ∀ e : String, R1 = Sum.inl e → e = IOB) : Met l yL_nearestAbove (Cond.codeWith yL_nearestAbove cL_nearestAbove 5 (some .int) [(0, 10, 13, 19)] :: XALL) ({ frames := 8, cells := 2, slots := 12, locals := 133 } : Room) (va_Pc [.ref (q 0), .int x1, .int x2, .ref qo] (hPre D cI cL (hw9 cI cL q qo (S, fo)) sz)) (hQi D cI cL q qo (S, fo) (fun k u => (∃ r : Int32, R1 = Sum.inr r ∧ k = 0 ∧ u = (S, vp_updL fo 0 (Int32.toInt64 r))) ∨ (∃ e : String, R1 = Sum.inl e ∧ k = hcd [IOB] e ∧ u = (S, fo))) sz) 2 12 (va_A (hw9 cI cL q qo (S, fo)) sz) := by
  refine va_MetW (cc := cL_nearestAbove) (maxL := 5) (ret := (some .int)) (hh := [(0, 10, 13, 19)]) (by decide) rfl ?_
  intro p e s m args below meth c s₁ B hml hv
  obtain ⟨rfl, hg⟩ := hv
  have C : Ctx p s m _ meth c cL_nearestAbove 5 RL (some .int) := Ctx.of B hml rfl
  have htb := CtxH.of B
  obtain ⟨E, hw, hsz, Z⟩ := h_start hg
  subst hsz
  have hl := lv_entry ([.ref (q 0), .int x1, .int x2, .ref qo]) (n := 5) (Nat.le_of_ble_eq_true rfl)
  rw [lg_entry_eq]
  generalize (lg_sl ([.ref (q 0), .int x1, .int x2, .ref qo]) ++ List.replicate (5 - (lg_sl ([.ref (q 0), .int x1, .int x2, .ref qo])).length) Slot.unset).toArray = ls at hl ⊢
  have hl : lv_has ls 5 [(0, .ref (q 0)), (1, .int x1), (2, .int x2), (3, .ref qo)] := hl
  have hw : gW D (hw9 cI cL q qo (S, fo)) (xw cI q S ++ [oc cL qo fo]) s s.heap [] := hw
  refine lv_aload_n C.1 C.2.1 dL_nearestAbove_0 rfl (lv_at hl 3 rfl) ?_
  refine lv_iconst (v := 0) C.1 C.2.1 dL_nearestAbove_1 (by decide) ?_
  refine lv_aload_n C.1 C.2.1 dL_nearestAbove_2 rfl (lv_at hl 0 rfl) ?_
  refine lv_iload_n C.1 C.2.1 dL_nearestAbove_3 rfl (lv_at hl 1 rfl) ?_
  refine lv_iload_n C.1 C.2.1 dL_nearestAbove_4 rfl (lv_at hl 2 rfl) ?_
  refine g_hcx (u0 := S) (rest := [.int 0, .ref qo]) hw (g_runHX (As := [.int x1, .int x2]) (rest := [.int 0, .ref qo]) C E.E hw Z F_X3_nearestAbove rfl (ctX3_nearestAbove l hT (cI := cI) (D := D) (q := q) S x1 x2 _ hf) km_L_71 rfl hl.1 rfl (Nat.le_of_ble_eq_true rfl) ⟨(Nat.le_of_ble_eq_true rfl), (Nat.le_of_ble_eq_true rfl)⟩ ⟨(Nat.le_of_ble_eq_true rfl), (Nat.le_of_ble_eq_true rfl)⟩ dL_nearestAbove_5) (fun v q9 ce H locs hp hw hce hcv hcl => ?_) (fun r u hp H locs hw => ?_)
  · obtain ⟨e9, S9⟩ := v
    obtain ⟨hp, hp2⟩ := hp
    have hp : R1 = Sum.inl e9 := hp
    have hp2 : S9 = S := hp2
    subst hp2
    have hcl : s.vm.findClass e9 = some ce.cls := hcl
    have hw : gW D (hw9 cI cL q qo (S9, fo)) (xw cI q S9 ++ [oc cL qo fo]) s H locs := hw
    rcases hE e9 hp with rfl
    · refine g_catch (cls := IOB) C E htb [] (0, 10, 13, 19) [] rfl (fun z hz => absurd hz List.not_mem_nil) (by decide) (by decide) kl_L_19 kcast_IOB hce hcv hcl ?_
      refine lv_astore (lv' := [(4, .ref q9), (0, .ref (q 0)), (1, .int x1), (2, .int x2), (3, .ref qo)]) C.1 C.2.1 dL_nearestAbove_13 hl (by decide) rfl (fun ls hl => ?_)
      refine lv_iconst (v := 1) C.1 C.2.1 dL_nearestAbove_15 (by decide) ?_
      exact h_iret (u := (S9, fo)) C hw (Nat.le_of_ble_eq_true rfl) (Nat.le_of_ble_eq_true rfl) (Or.inr ⟨IOB, hp, by show (1 : Int32) = hcd [IOB] IOB; decide +kernel, rfl⟩) dL_nearestAbove_16
  · obtain ⟨hp, hp2⟩ := hp
    have hp2 : u = S := hp2
    subst hp2
    refine lv_i2l (v := Int32.toInt64 r) C.1 C.2.1 dL_nearestAbove_8 rfl ?_
    have hw : gW D (hw9 cI cL q qo (u, fo)) (xw cI q u ++ [oc cL qo fo]) s H locs := hw
    refine g_last1 C E hw dL_nearestAbove_9 (fun H locs hw => ?_)
    refine lv_goto (tgt := 17) C.1 C.2.1 dL_nearestAbove_10 (by decide) ?_
    refine lv_iconst (v := 0) C.1 C.2.1 dL_nearestAbove_17 (by decide) ?_
    exact h_iret (u := (u, vp_updL fo 0 (Int32.toInt64 r))) C hw (Nat.le_of_ble_eq_true rfl) (Nat.le_of_ble_eq_true rfl) (Or.inl ⟨r, hp, rfl, rfl⟩) dL_nearestAbove_18
theorem FH_dreamsWith : FctS0 yL_dreamsWith ∧ Cond.codeWith yL_dreamsWith cL_dreamsWith 4 (some .int) [(0, 9, 12, 19)] ∈ XALL ∧ (parseMethodDescriptor yL_dreamsWith.desc).map (fun d => d.parameters.length) = some 3 := ⟨⟨kt_yL_dreamsWith, by decide +kernel, by decide +kernel⟩, kw_yL_dreamsWith, by decide +kernel⟩
set_option maxHeartbeats 4000000 in
set_option maxRecDepth 100000 in
theorem ctL_dreamsWith (l : Launch) (hT : l.stackTraces = false) {D : va_G} {cI cL : ClassId} {q : Nat → Nat} {qo : Nat} (S : St) (fo : Nat → Int64) (x1 : Int32) (sz : Nat) {R1 : ((String) ⊕ (Int32))} (hf : fX3_dreamsWith S x1 = some R1) (hE : ∀ e : String, R1 = Sum.inl e → e = IOB) : Met l yL_dreamsWith (Cond.codeWith yL_dreamsWith cL_dreamsWith 4 (some .int) [(0, 9, 12, 19)] :: XALL) ({ frames := 8, cells := 1, slots := 6, locals := 132 } : Room) (va_Pc [.ref (q 0), .int x1, .ref qo] (hPre D cI cL (hw9 cI cL q qo (S, fo)) sz)) (hQi D cI cL q qo (S, fo) (fun k u => (∃ r : Int32, R1 = Sum.inr r ∧ k = 0 ∧ u = (S, vp_updL fo 0 (Int32.toInt64 r))) ∨ (∃ e : String, R1 = Sum.inl e ∧ k = hcd [IOB] e ∧ u = (S, fo))) sz) 1 6 (va_A (hw9 cI cL q qo (S, fo)) sz) := by
  refine va_MetW (cc := cL_dreamsWith) (maxL := 4) (ret := (some .int)) (hh := [(0, 9, 12, 19)]) (by decide) rfl ?_
  intro p e s m args below meth c s₁ B hml hv
  obtain ⟨rfl, hg⟩ := hv
  have C : Ctx p s m _ meth c cL_dreamsWith 4 RL (some .int) := Ctx.of B hml rfl
  have htb := CtxH.of B
  obtain ⟨E, hw, hsz, Z⟩ := h_start hg
  subst hsz
  have hl := lv_entry ([.ref (q 0), .int x1, .ref qo]) (n := 4) (Nat.le_of_ble_eq_true rfl)
  rw [lg_entry_eq]
  generalize (lg_sl ([.ref (q 0), .int x1, .ref qo]) ++ List.replicate (4 - (lg_sl ([.ref (q 0), .int x1, .ref qo])).length) Slot.unset).toArray = ls at hl ⊢
  have hl : lv_has ls 4 [(0, .ref (q 0)), (1, .int x1), (2, .ref qo)] := hl
  have hw : gW D (hw9 cI cL q qo (S, fo)) (xw cI q S ++ [oc cL qo fo]) s s.heap [] := hw
  refine lv_aload_n C.1 C.2.1 dL_dreamsWith_0 rfl (lv_at hl 2 rfl) ?_
  refine lv_iconst (v := 0) C.1 C.2.1 dL_dreamsWith_1 (by decide) ?_
  refine lv_aload_n C.1 C.2.1 dL_dreamsWith_2 rfl (lv_at hl 0 rfl) ?_
  refine lv_iload_n C.1 C.2.1 dL_dreamsWith_3 rfl (lv_at hl 1 rfl) ?_
  refine g_hcx (u0 := S) (rest := [.int 0, .ref qo]) hw (g_runHX (As := [.int x1]) (rest := [.int 0, .ref qo]) C E.E hw Z F_X3_dreamsWith rfl (ctX3_dreamsWith l hT (cI := cI) (D := D) (q := q) S x1 _ hf) km_L_74 rfl hl.1 rfl (Nat.le_of_ble_eq_true rfl) ⟨(Nat.le_of_ble_eq_true rfl), (Nat.le_of_ble_eq_true rfl)⟩ ⟨(Nat.le_of_ble_eq_true rfl), (Nat.le_of_ble_eq_true rfl)⟩ dL_dreamsWith_4) (fun v q9 ce H locs hp hw hce hcv hcl => ?_) (fun r u hp H locs hw => ?_)
  · obtain ⟨e9, S9⟩ := v
    obtain ⟨hp, hp2⟩ := hp
    have hp : R1 = Sum.inl e9 := hp
    have hp2 : S9 = S := hp2
    subst hp2
    have hcl : s.vm.findClass e9 = some ce.cls := hcl
    have hw : gW D (hw9 cI cL q qo (S9, fo)) (xw cI q S9 ++ [oc cL qo fo]) s H locs := hw
    rcases hE e9 hp with rfl
    · refine g_catch (cls := IOB) C E htb [] (0, 9, 12, 19) [] rfl (fun z hz => absurd hz List.not_mem_nil) (by decide) (by decide) kl_L_19 kcast_IOB hce hcv hcl ?_
      refine lv_astore_n (lv' := [(3, .ref q9), (0, .ref (q 0)), (1, .int x1), (2, .ref qo)]) C.1 C.2.1 dL_dreamsWith_12 rfl hl (by decide) rfl (fun ls hl => ?_)
      refine lv_iconst (v := 1) C.1 C.2.1 dL_dreamsWith_13 (by decide) ?_
      exact h_iret (u := (S9, fo)) C hw (Nat.le_of_ble_eq_true rfl) (Nat.le_of_ble_eq_true rfl) (Or.inr ⟨IOB, hp, by show (1 : Int32) = hcd [IOB] IOB; decide +kernel, rfl⟩) dL_dreamsWith_14
  · obtain ⟨hp, hp2⟩ := hp
    have hp2 : u = S := hp2
    subst hp2
    refine lv_i2l (v := Int32.toInt64 r) C.1 C.2.1 dL_dreamsWith_7 rfl ?_
    have hw : gW D (hw9 cI cL q qo (u, fo)) (xw cI q u ++ [oc cL qo fo]) s H locs := hw
    refine g_last1 C E hw dL_dreamsWith_8 (fun H locs hw => ?_)
    refine lv_goto (tgt := 15) C.1 C.2.1 dL_dreamsWith_9 (by decide) ?_
    refine lv_iconst (v := 0) C.1 C.2.1 dL_dreamsWith_15 (by decide) ?_
    exact h_iret (u := (u, vp_updL fo 0 (Int32.toInt64 r))) C hw (Nat.le_of_ble_eq_true rfl) (Nat.le_of_ble_eq_true rfl) (Or.inl ⟨r, hp, rfl, rfl⟩) dL_dreamsWith_16
theorem FH_hasOwnTag : FctS0 yL_hasOwnTag ∧ Cond.codeWith yL_hasOwnTag cL_hasOwnTag 5 (some .int) [(0, 17, 20, 19)] ∈ XALL ∧ (parseMethodDescriptor yL_hasOwnTag.desc).map (fun d => d.parameters.length) = some 4 := ⟨⟨kt_yL_hasOwnTag, by decide +kernel, by decide +kernel⟩, kw_yL_hasOwnTag, by decide +kernel⟩
set_option maxHeartbeats 4000000 in
set_option maxRecDepth 100000 in
theorem ctL_hasOwnTag (l : Launch) (hT : l.stackTraces = false) {D : va_G} {cI cL : ClassId} {q : Nat → Nat} {qo : Nat} (S : St) (fo : Nat → Int64) (x1 : Int32) (x2 : Int32) (sz : Nat) {R1 : ((String) ⊕ (Int32))} (hf : fX3_hasOwnTag S x1 x2 = some R1) (hE : ∀ e : String, R1 = Sum.inl e → e = IOB) : Met l yL_hasOwnTag (Cond.codeWith yL_hasOwnTag cL_hasOwnTag 5 (some .int) [(0, 17, 20, 19)] :: XALL) ({ frames := 8, cells := 2, slots := 12, locals := 133 } : Room) (va_Pc [.ref (q 0), .int x1, .int x2, .ref qo] (hPre D cI cL (hw9 cI cL q qo (S, fo)) sz)) (hQi D cI cL q qo (S, fo) (fun k u => (∃ r : Int32, R1 = Sum.inr r ∧ k = 0 ∧ u = (S, vp_updL fo 0 (if r = 0 then 0 else 1))) ∨ (∃ e : String, R1 = Sum.inl e ∧ k = hcd [IOB] e ∧ u = (S, fo))) sz) 2 12 (va_A (hw9 cI cL q qo (S, fo)) sz) := by
  refine va_MetW (cc := cL_hasOwnTag) (maxL := 5) (ret := (some .int)) (hh := [(0, 17, 20, 19)]) (by decide) rfl ?_
  intro p e s m args below meth c s₁ B hml hv
  obtain ⟨rfl, hg⟩ := hv
  have C : Ctx p s m _ meth c cL_hasOwnTag 5 RL (some .int) := Ctx.of B hml rfl
  have htb := CtxH.of B
  obtain ⟨E, hw, hsz, Z⟩ := h_start hg
  subst hsz
  have hl := lv_entry ([.ref (q 0), .int x1, .int x2, .ref qo]) (n := 5) (Nat.le_of_ble_eq_true rfl)
  rw [lg_entry_eq]
  generalize (lg_sl ([.ref (q 0), .int x1, .int x2, .ref qo]) ++ List.replicate (5 - (lg_sl ([.ref (q 0), .int x1, .int x2, .ref qo])).length) Slot.unset).toArray = ls at hl ⊢
  have hl : lv_has ls 5 [(0, .ref (q 0)), (1, .int x1), (2, .int x2), (3, .ref qo)] := hl
  have hw : gW D (hw9 cI cL q qo (S, fo)) (xw cI q S ++ [oc cL qo fo]) s s.heap [] := hw
  refine lv_aload_n C.1 C.2.1 dL_hasOwnTag_0 rfl (lv_at hl 3 rfl) ?_
  refine lv_iconst (v := 0) C.1 C.2.1 dL_hasOwnTag_1 (by decide) ?_
  refine lv_aload_n C.1 C.2.1 dL_hasOwnTag_2 rfl (lv_at hl 0 rfl) ?_
  refine lv_iload_n C.1 C.2.1 dL_hasOwnTag_3 rfl (lv_at hl 1 rfl) ?_
  refine lv_iload_n C.1 C.2.1 dL_hasOwnTag_4 rfl (lv_at hl 2 rfl) ?_
  refine g_hcx (u0 := S) (rest := [.int 0, .ref qo]) hw (g_runHX (As := [.int x1, .int x2]) (rest := [.int 0, .ref qo]) C E.E hw Z F_X3_hasOwnTag rfl (ctX3_hasOwnTag l hT (cI := cI) (D := D) (q := q) S x1 x2 _ hf) km_L_77 rfl hl.1 rfl (Nat.le_of_ble_eq_true rfl) ⟨(Nat.le_of_ble_eq_true rfl), (Nat.le_of_ble_eq_true rfl)⟩ ⟨(Nat.le_of_ble_eq_true rfl), (Nat.le_of_ble_eq_true rfl)⟩ dL_hasOwnTag_5) (fun v q9 ce H locs hp hw hce hcv hcl => ?_) (fun r u hp H locs hw => ?_)
  · obtain ⟨e9, S9⟩ := v
    obtain ⟨hp, hp2⟩ := hp
    have hp : R1 = Sum.inl e9 := hp
    have hp2 : S9 = S := hp2
    subst hp2
    have hcl : s.vm.findClass e9 = some ce.cls := hcl
    have hw : gW D (hw9 cI cL q qo (S9, fo)) (xw cI q S9 ++ [oc cL qo fo]) s H locs := hw
    rcases hE e9 hp with rfl
    · refine g_catch (cls := IOB) C E htb [] (0, 17, 20, 19) [] rfl (fun z hz => absurd hz List.not_mem_nil) (by decide) (by decide) kl_L_19 kcast_IOB hce hcv hcl ?_
      refine lv_astore (lv' := [(4, .ref q9), (0, .ref (q 0)), (1, .int x1), (2, .int x2), (3, .ref qo)]) C.1 C.2.1 dL_hasOwnTag_20 hl (by decide) rfl (fun ls hl => ?_)
      refine lv_iconst (v := 1) C.1 C.2.1 dL_hasOwnTag_22 (by decide) ?_
      exact h_iret (u := (S9, fo)) C hw (Nat.le_of_ble_eq_true rfl) (Nat.le_of_ble_eq_true rfl) (Or.inr ⟨IOB, hp, by show (1 : Int32) = hcd [IOB] IOB; decide +kernel, rfl⟩) dL_hasOwnTag_23
  · obtain ⟨hp, hp2⟩ := hp
    have hp2 : u = S := hp2
    subst hp2
    have hw : gW D (hw9 cI cL q qo (u, fo)) (xw cI q u ++ [oc cL qo fo]) s H locs := hw
    refine lv_if_eq (tgt := 15) C.1 C.2.1 dL_hasOwnTag_8 (by decide) (fun hc => ?_) (fun hc => ?_)
    · refine lv_lconst (v := 0) C.1 C.2.1 dL_hasOwnTag_15 (by decide) ?_
      refine g_last1 C E hw dL_hasOwnTag_16 (fun H locs hw => ?_)
      refine lv_goto (tgt := 24) C.1 C.2.1 dL_hasOwnTag_17 (by decide) ?_
      refine lv_iconst (v := 0) C.1 C.2.1 dL_hasOwnTag_24 (by decide) ?_
      exact h_iret (u := (u, vp_updL fo 0 0)) C hw (Nat.le_of_ble_eq_true rfl) (Nat.le_of_ble_eq_true rfl) (Or.inl ⟨r, hp, rfl, by rw [if_pos hc]⟩) dL_hasOwnTag_25
    · refine lv_lconst (v := 1) C.1 C.2.1 dL_hasOwnTag_11 (by decide) ?_
      refine lv_goto (tgt := 16) C.1 C.2.1 dL_hasOwnTag_12 (by decide) ?_
      refine g_last1 C E hw dL_hasOwnTag_16 (fun H locs hw => ?_)
      refine lv_goto (tgt := 24) C.1 C.2.1 dL_hasOwnTag_17 (by decide) ?_
      refine lv_iconst (v := 0) C.1 C.2.1 dL_hasOwnTag_24 (by decide) ?_
      exact h_iret (u := (u, vp_updL fo 0 1)) C hw (Nat.le_of_ble_eq_true rfl) (Nat.le_of_ble_eq_true rfl) (Or.inl ⟨r, hp, rfl, by rw [if_neg hc]⟩) dL_hasOwnTag_25
theorem FH_hasTag : FctS0 yL_hasTag ∧ Cond.codeWith yL_hasTag cL_hasTag 5 (some .int) [(0, 17, 20, 19)] ∈ XALL ∧ (parseMethodDescriptor yL_hasTag.desc).map (fun d => d.parameters.length) = some 4 := ⟨⟨kt_yL_hasTag, by decide +kernel, by decide +kernel⟩, kw_yL_hasTag, by decide +kernel⟩
set_option maxHeartbeats 4000000 in
set_option maxRecDepth 100000 in
theorem ctL_hasTag (l : Launch) (hT : l.stackTraces = false) {D : va_G} {cI cL : ClassId} {q : Nat → Nat} {qo : Nat} (S : St) (fo : Nat → Int64) (x1 : Int32) (x2 : Int32) (sz : Nat) {R1 : ((String) ⊕ (Int32))} (hf : fX3_hasTag S x1 x2 = some R1) (hE : ∀ e : String, R1 = Sum.inl e → e = IOB) : Met l yL_hasTag (Cond.codeWith yL_hasTag cL_hasTag 5 (some .int) [(0, 17, 20, 19)] :: XALL) ({ frames := 8, cells := 2, slots := 12, locals := 133 } : Room) (va_Pc [.ref (q 0), .int x1, .int x2, .ref qo] (hPre D cI cL (hw9 cI cL q qo (S, fo)) sz)) (hQi D cI cL q qo (S, fo) (fun k u => (∃ r : Int32, R1 = Sum.inr r ∧ k = 0 ∧ u = (S, vp_updL fo 0 (if r = 0 then 0 else 1))) ∨ (∃ e : String, R1 = Sum.inl e ∧ k = hcd [IOB] e ∧ u = (S, fo))) sz) 2 12 (va_A (hw9 cI cL q qo (S, fo)) sz) := by
  refine va_MetW (cc := cL_hasTag) (maxL := 5) (ret := (some .int)) (hh := [(0, 17, 20, 19)]) (by decide) rfl ?_
  intro p e s m args below meth c s₁ B hml hv
  obtain ⟨rfl, hg⟩ := hv
  have C : Ctx p s m _ meth c cL_hasTag 5 RL (some .int) := Ctx.of B hml rfl
  have htb := CtxH.of B
  obtain ⟨E, hw, hsz, Z⟩ := h_start hg
  subst hsz
  have hl := lv_entry ([.ref (q 0), .int x1, .int x2, .ref qo]) (n := 5) (Nat.le_of_ble_eq_true rfl)
  rw [lg_entry_eq]
  generalize (lg_sl ([.ref (q 0), .int x1, .int x2, .ref qo]) ++ List.replicate (5 - (lg_sl ([.ref (q 0), .int x1, .int x2, .ref qo])).length) Slot.unset).toArray = ls at hl ⊢
  have hl : lv_has ls 5 [(0, .ref (q 0)), (1, .int x1), (2, .int x2), (3, .ref qo)] := hl
  have hw : gW D (hw9 cI cL q qo (S, fo)) (xw cI q S ++ [oc cL qo fo]) s s.heap [] := hw
  refine lv_aload_n C.1 C.2.1 dL_hasTag_0 rfl (lv_at hl 3 rfl) ?_
  refine lv_iconst (v := 0) C.1 C.2.1 dL_hasTag_1 (by decide) ?_
  refine lv_aload_n C.1 C.2.1 dL_hasTag_2 rfl (lv_at hl 0 rfl) ?_
  refine lv_iload_n C.1 C.2.1 dL_hasTag_3 rfl (lv_at hl 1 rfl) ?_
  refine lv_iload_n C.1 C.2.1 dL_hasTag_4 rfl (lv_at hl 2 rfl) ?_
  refine g_hcx (u0 := S) (rest := [.int 0, .ref qo]) hw (g_runHX (As := [.int x1, .int x2]) (rest := [.int 0, .ref qo]) C E.E hw Z F_X3_hasTag rfl (ctX3_hasTag l hT (cI := cI) (D := D) (q := q) S x1 x2 _ hf) km_L_80 rfl hl.1 rfl (Nat.le_of_ble_eq_true rfl) ⟨(Nat.le_of_ble_eq_true rfl), (Nat.le_of_ble_eq_true rfl)⟩ ⟨(Nat.le_of_ble_eq_true rfl), (Nat.le_of_ble_eq_true rfl)⟩ dL_hasTag_5) (fun v q9 ce H locs hp hw hce hcv hcl => ?_) (fun r u hp H locs hw => ?_)
  · obtain ⟨e9, S9⟩ := v
    obtain ⟨hp, hp2⟩ := hp
    have hp : R1 = Sum.inl e9 := hp
    have hp2 : S9 = S := hp2
    subst hp2
    have hcl : s.vm.findClass e9 = some ce.cls := hcl
    have hw : gW D (hw9 cI cL q qo (S9, fo)) (xw cI q S9 ++ [oc cL qo fo]) s H locs := hw
    rcases hE e9 hp with rfl
    · refine g_catch (cls := IOB) C E htb [] (0, 17, 20, 19) [] rfl (fun z hz => absurd hz List.not_mem_nil) (by decide) (by decide) kl_L_19 kcast_IOB hce hcv hcl ?_
      refine lv_astore (lv' := [(4, .ref q9), (0, .ref (q 0)), (1, .int x1), (2, .int x2), (3, .ref qo)]) C.1 C.2.1 dL_hasTag_20 hl (by decide) rfl (fun ls hl => ?_)
      refine lv_iconst (v := 1) C.1 C.2.1 dL_hasTag_22 (by decide) ?_
      exact h_iret (u := (S9, fo)) C hw (Nat.le_of_ble_eq_true rfl) (Nat.le_of_ble_eq_true rfl) (Or.inr ⟨IOB, hp, by show (1 : Int32) = hcd [IOB] IOB; decide +kernel, rfl⟩) dL_hasTag_23
  · obtain ⟨hp, hp2⟩ := hp
    have hp2 : u = S := hp2
    subst hp2
    have hw : gW D (hw9 cI cL q qo (u, fo)) (xw cI q u ++ [oc cL qo fo]) s H locs := hw
    refine lv_if_eq (tgt := 15) C.1 C.2.1 dL_hasTag_8 (by decide) (fun hc => ?_) (fun hc => ?_)
    · refine lv_lconst (v := 0) C.1 C.2.1 dL_hasTag_15 (by decide) ?_
      refine g_last1 C E hw dL_hasTag_16 (fun H locs hw => ?_)
      refine lv_goto (tgt := 24) C.1 C.2.1 dL_hasTag_17 (by decide) ?_
      refine lv_iconst (v := 0) C.1 C.2.1 dL_hasTag_24 (by decide) ?_
      exact h_iret (u := (u, vp_updL fo 0 0)) C hw (Nat.le_of_ble_eq_true rfl) (Nat.le_of_ble_eq_true rfl) (Or.inl ⟨r, hp, rfl, by rw [if_pos hc]⟩) dL_hasTag_25
    · refine lv_lconst (v := 1) C.1 C.2.1 dL_hasTag_11 (by decide) ?_
      refine lv_goto (tgt := 16) C.1 C.2.1 dL_hasTag_12 (by decide) ?_
      refine g_last1 C E hw dL_hasTag_16 (fun H locs hw => ?_)
      refine lv_goto (tgt := 24) C.1 C.2.1 dL_hasTag_17 (by decide) ?_
      refine lv_iconst (v := 0) C.1 C.2.1 dL_hasTag_24 (by decide) ?_
      exact h_iret (u := (u, vp_updL fo 0 1)) C hw (Nat.le_of_ble_eq_true rfl) (Nat.le_of_ble_eq_true rfl) (Or.inl ⟨r, hp, rfl, by rw [if_neg hc]⟩) dL_hasTag_25
theorem FH_tagsOf : FctS0 yL_tagsOf ∧ Cond.codeWith yL_tagsOf cL_tagsOf 4 (some .int) [(0, 9, 12, 19)] ∈ XALL ∧ (parseMethodDescriptor yL_tagsOf.desc).map (fun d => d.parameters.length) = some 3 := ⟨⟨kt_yL_tagsOf, by decide +kernel, by decide +kernel⟩, kw_yL_tagsOf, by decide +kernel⟩
set_option maxHeartbeats 4000000 in
set_option maxRecDepth 100000 in
theorem ctL_tagsOf (l : Launch) (hT : l.stackTraces = false) {D : va_G} {cI cL : ClassId} {q : Nat → Nat} {qo : Nat} (S : St) (fo : Nat → Int64) (x1 : Int32) (sz : Nat) {R1 : ((String) ⊕ (Int32))} (hf : fX3_tagsOf S x1 = some R1) (hE : ∀ e : String, R1 = Sum.inl e → e = IOB) : Met l yL_tagsOf (Cond.codeWith yL_tagsOf cL_tagsOf 4 (some .int) [(0, 9, 12, 19)] :: XALL) ({ frames := 8, cells := 1, slots := 6, locals := 132 } : Room) (va_Pc [.ref (q 0), .int x1, .ref qo] (hPre D cI cL (hw9 cI cL q qo (S, fo)) sz)) (hQi D cI cL q qo (S, fo) (fun k u => (∃ r : Int32, R1 = Sum.inr r ∧ k = 0 ∧ u = (S, vp_updL fo 0 (Int32.toInt64 r))) ∨ (∃ e : String, R1 = Sum.inl e ∧ k = hcd [IOB] e ∧ u = (S, fo))) sz) 1 6 (va_A (hw9 cI cL q qo (S, fo)) sz) := by
  refine va_MetW (cc := cL_tagsOf) (maxL := 4) (ret := (some .int)) (hh := [(0, 9, 12, 19)]) (by decide) rfl ?_
  intro p e s m args below meth c s₁ B hml hv
  obtain ⟨rfl, hg⟩ := hv
  have C : Ctx p s m _ meth c cL_tagsOf 4 RL (some .int) := Ctx.of B hml rfl
  have htb := CtxH.of B
  obtain ⟨E, hw, hsz, Z⟩ := h_start hg
  subst hsz
  have hl := lv_entry ([.ref (q 0), .int x1, .ref qo]) (n := 4) (Nat.le_of_ble_eq_true rfl)
  rw [lg_entry_eq]
  generalize (lg_sl ([.ref (q 0), .int x1, .ref qo]) ++ List.replicate (4 - (lg_sl ([.ref (q 0), .int x1, .ref qo])).length) Slot.unset).toArray = ls at hl ⊢
  have hl : lv_has ls 4 [(0, .ref (q 0)), (1, .int x1), (2, .ref qo)] := hl
  have hw : gW D (hw9 cI cL q qo (S, fo)) (xw cI q S ++ [oc cL qo fo]) s s.heap [] := hw
  refine lv_aload_n C.1 C.2.1 dL_tagsOf_0 rfl (lv_at hl 2 rfl) ?_
  refine lv_iconst (v := 0) C.1 C.2.1 dL_tagsOf_1 (by decide) ?_
  refine lv_aload_n C.1 C.2.1 dL_tagsOf_2 rfl (lv_at hl 0 rfl) ?_
  refine lv_iload_n C.1 C.2.1 dL_tagsOf_3 rfl (lv_at hl 1 rfl) ?_
  refine g_hcx (u0 := S) (rest := [.int 0, .ref qo]) hw (g_runHX (As := [.int x1]) (rest := [.int 0, .ref qo]) C E.E hw Z F_X3_tagsOf rfl (ctX3_tagsOf l hT (cI := cI) (D := D) (q := q) S x1 _ hf) km_L_83 rfl hl.1 rfl (Nat.le_of_ble_eq_true rfl) ⟨(Nat.le_of_ble_eq_true rfl), (Nat.le_of_ble_eq_true rfl)⟩ ⟨(Nat.le_of_ble_eq_true rfl), (Nat.le_of_ble_eq_true rfl)⟩ dL_tagsOf_4) (fun v q9 ce H locs hp hw hce hcv hcl => ?_) (fun r u hp H locs hw => ?_)
  · obtain ⟨e9, S9⟩ := v
    obtain ⟨hp, hp2⟩ := hp
    have hp : R1 = Sum.inl e9 := hp
    have hp2 : S9 = S := hp2
    subst hp2
    have hcl : s.vm.findClass e9 = some ce.cls := hcl
    have hw : gW D (hw9 cI cL q qo (S9, fo)) (xw cI q S9 ++ [oc cL qo fo]) s H locs := hw
    rcases hE e9 hp with rfl
    · refine g_catch (cls := IOB) C E htb [] (0, 9, 12, 19) [] rfl (fun z hz => absurd hz List.not_mem_nil) (by decide) (by decide) kl_L_19 kcast_IOB hce hcv hcl ?_
      refine lv_astore_n (lv' := [(3, .ref q9), (0, .ref (q 0)), (1, .int x1), (2, .ref qo)]) C.1 C.2.1 dL_tagsOf_12 rfl hl (by decide) rfl (fun ls hl => ?_)
      refine lv_iconst (v := 1) C.1 C.2.1 dL_tagsOf_13 (by decide) ?_
      exact h_iret (u := (S9, fo)) C hw (Nat.le_of_ble_eq_true rfl) (Nat.le_of_ble_eq_true rfl) (Or.inr ⟨IOB, hp, by show (1 : Int32) = hcd [IOB] IOB; decide +kernel, rfl⟩) dL_tagsOf_14
  · obtain ⟨hp, hp2⟩ := hp
    have hp2 : u = S := hp2
    subst hp2
    refine lv_i2l (v := Int32.toInt64 r) C.1 C.2.1 dL_tagsOf_7 rfl ?_
    have hw : gW D (hw9 cI cL q qo (u, fo)) (xw cI q u ++ [oc cL qo fo]) s H locs := hw
    refine g_last1 C E hw dL_tagsOf_8 (fun H locs hw => ?_)
    refine lv_goto (tgt := 15) C.1 C.2.1 dL_tagsOf_9 (by decide) ?_
    refine lv_iconst (v := 0) C.1 C.2.1 dL_tagsOf_15 (by decide) ?_
    exact h_iret (u := (u, vp_updL fo 0 (Int32.toInt64 r))) C hw (Nat.le_of_ble_eq_true rfl) (Nat.le_of_ble_eq_true rfl) (Or.inl ⟨r, hp, rfl, rfl⟩) dL_tagsOf_16
theorem FH_vividnessOf : FctS0 yL_vividnessOf ∧ Cond.codeWith yL_vividnessOf cL_vividnessOf 4 (some .int) [(0, 9, 12, 19)] ∈ XALL ∧ (parseMethodDescriptor yL_vividnessOf.desc).map (fun d => d.parameters.length) = some 3 := ⟨⟨kt_yL_vividnessOf, by decide +kernel, by decide +kernel⟩, kw_yL_vividnessOf, by decide +kernel⟩
set_option maxHeartbeats 4000000 in
set_option maxRecDepth 100000 in
theorem ctL_vividnessOf (l : Launch) (hT : l.stackTraces = false) {D : va_G} {cI cL : ClassId} {q : Nat → Nat} {qo : Nat} (S : St) (fo : Nat → Int64) (x1 : Int32) (sz : Nat) {R1 : ((String) ⊕ (Int32))} (hf : fX3_vividnessOf S x1 = some R1) (hE : ∀ e : String, R1 = Sum.inl e → e = IOB) : Met l yL_vividnessOf (Cond.codeWith yL_vividnessOf cL_vividnessOf 4 (some .int) [(0, 9, 12, 19)] :: XALL) ({ frames := 8, cells := 1, slots := 6, locals := 132 } : Room) (va_Pc [.ref (q 0), .int x1, .ref qo] (hPre D cI cL (hw9 cI cL q qo (S, fo)) sz)) (hQi D cI cL q qo (S, fo) (fun k u => (∃ r : Int32, R1 = Sum.inr r ∧ k = 0 ∧ u = (S, vp_updL fo 0 (Int32.toInt64 r))) ∨ (∃ e : String, R1 = Sum.inl e ∧ k = hcd [IOB] e ∧ u = (S, fo))) sz) 1 6 (va_A (hw9 cI cL q qo (S, fo)) sz) := by
  refine va_MetW (cc := cL_vividnessOf) (maxL := 4) (ret := (some .int)) (hh := [(0, 9, 12, 19)]) (by decide) rfl ?_
  intro p e s m args below meth c s₁ B hml hv
  obtain ⟨rfl, hg⟩ := hv
  have C : Ctx p s m _ meth c cL_vividnessOf 4 RL (some .int) := Ctx.of B hml rfl
  have htb := CtxH.of B
  obtain ⟨E, hw, hsz, Z⟩ := h_start hg
  subst hsz
  have hl := lv_entry ([.ref (q 0), .int x1, .ref qo]) (n := 4) (Nat.le_of_ble_eq_true rfl)
  rw [lg_entry_eq]
  generalize (lg_sl ([.ref (q 0), .int x1, .ref qo]) ++ List.replicate (4 - (lg_sl ([.ref (q 0), .int x1, .ref qo])).length) Slot.unset).toArray = ls at hl ⊢
  have hl : lv_has ls 4 [(0, .ref (q 0)), (1, .int x1), (2, .ref qo)] := hl
  have hw : gW D (hw9 cI cL q qo (S, fo)) (xw cI q S ++ [oc cL qo fo]) s s.heap [] := hw
  refine lv_aload_n C.1 C.2.1 dL_vividnessOf_0 rfl (lv_at hl 2 rfl) ?_
  refine lv_iconst (v := 0) C.1 C.2.1 dL_vividnessOf_1 (by decide) ?_
  refine lv_aload_n C.1 C.2.1 dL_vividnessOf_2 rfl (lv_at hl 0 rfl) ?_
  refine lv_iload_n C.1 C.2.1 dL_vividnessOf_3 rfl (lv_at hl 1 rfl) ?_
  refine g_hcx (u0 := S) (rest := [.int 0, .ref qo]) hw (g_runHX (As := [.int x1]) (rest := [.int 0, .ref qo]) C E.E hw Z F_X3_vividnessOf rfl (ctX3_vividnessOf l hT (cI := cI) (D := D) (q := q) S x1 _ hf) km_L_86 rfl hl.1 rfl (Nat.le_of_ble_eq_true rfl) ⟨(Nat.le_of_ble_eq_true rfl), (Nat.le_of_ble_eq_true rfl)⟩ ⟨(Nat.le_of_ble_eq_true rfl), (Nat.le_of_ble_eq_true rfl)⟩ dL_vividnessOf_4) (fun v q9 ce H locs hp hw hce hcv hcl => ?_) (fun r u hp H locs hw => ?_)
  · obtain ⟨e9, S9⟩ := v
    obtain ⟨hp, hp2⟩ := hp
    have hp : R1 = Sum.inl e9 := hp
    have hp2 : S9 = S := hp2
    subst hp2
    have hcl : s.vm.findClass e9 = some ce.cls := hcl
    have hw : gW D (hw9 cI cL q qo (S9, fo)) (xw cI q S9 ++ [oc cL qo fo]) s H locs := hw
    rcases hE e9 hp with rfl
    · refine g_catch (cls := IOB) C E htb [] (0, 9, 12, 19) [] rfl (fun z hz => absurd hz List.not_mem_nil) (by decide) (by decide) kl_L_19 kcast_IOB hce hcv hcl ?_
      refine lv_astore_n (lv' := [(3, .ref q9), (0, .ref (q 0)), (1, .int x1), (2, .ref qo)]) C.1 C.2.1 dL_vividnessOf_12 rfl hl (by decide) rfl (fun ls hl => ?_)
      refine lv_iconst (v := 1) C.1 C.2.1 dL_vividnessOf_13 (by decide) ?_
      exact h_iret (u := (S9, fo)) C hw (Nat.le_of_ble_eq_true rfl) (Nat.le_of_ble_eq_true rfl) (Or.inr ⟨IOB, hp, by show (1 : Int32) = hcd [IOB] IOB; decide +kernel, rfl⟩) dL_vividnessOf_14
  · obtain ⟨hp, hp2⟩ := hp
    have hp2 : u = S := hp2
    subst hp2
    refine lv_i2l (v := Int32.toInt64 r) C.1 C.2.1 dL_vividnessOf_7 rfl ?_
    have hw : gW D (hw9 cI cL q qo (u, fo)) (xw cI q u ++ [oc cL qo fo]) s H locs := hw
    refine g_last1 C E hw dL_vividnessOf_8 (fun H locs hw => ?_)
    refine lv_goto (tgt := 15) C.1 C.2.1 dL_vividnessOf_9 (by decide) ?_
    refine lv_iconst (v := 0) C.1 C.2.1 dL_vividnessOf_15 (by decide) ?_
    exact h_iret (u := (u, vp_updL fo 0 (Int32.toInt64 r))) C hw (Nat.le_of_ble_eq_true rfl) (Nat.le_of_ble_eq_true rfl) (Or.inl ⟨r, hp, rfl, rfl⟩) dL_vividnessOf_16
theorem FH_nightOf : FctS0 yL_nightOf ∧ Cond.codeWith yL_nightOf cL_nightOf 4 (some .int) [(0, 9, 12, 19)] ∈ XALL ∧ (parseMethodDescriptor yL_nightOf.desc).map (fun d => d.parameters.length) = some 3 := ⟨⟨kt_yL_nightOf, by decide +kernel, by decide +kernel⟩, kw_yL_nightOf, by decide +kernel⟩
set_option maxHeartbeats 4000000 in
set_option maxRecDepth 100000 in
theorem ctL_nightOf (l : Launch) (hT : l.stackTraces = false) {D : va_G} {cI cL : ClassId} {q : Nat → Nat} {qo : Nat} (S : St) (fo : Nat → Int64) (x1 : Int32) (sz : Nat) {R1 : ((String) ⊕ (Int32))} (hf : fX3_nightOf S x1 = some R1) (hE : ∀ e : String, R1 = Sum.inl e → e = IOB) : Met l yL_nightOf (Cond.codeWith yL_nightOf cL_nightOf 4 (some .int) [(0, 9, 12, 19)] :: XALL) ({ frames := 8, cells := 1, slots := 6, locals := 132 } : Room) (va_Pc [.ref (q 0), .int x1, .ref qo] (hPre D cI cL (hw9 cI cL q qo (S, fo)) sz)) (hQi D cI cL q qo (S, fo) (fun k u => (∃ r : Int32, R1 = Sum.inr r ∧ k = 0 ∧ u = (S, vp_updL fo 0 (Int32.toInt64 r))) ∨ (∃ e : String, R1 = Sum.inl e ∧ k = hcd [IOB] e ∧ u = (S, fo))) sz) 1 6 (va_A (hw9 cI cL q qo (S, fo)) sz) := by
  refine va_MetW (cc := cL_nightOf) (maxL := 4) (ret := (some .int)) (hh := [(0, 9, 12, 19)]) (by decide) rfl ?_
  intro p e s m args below meth c s₁ B hml hv
  obtain ⟨rfl, hg⟩ := hv
  have C : Ctx p s m _ meth c cL_nightOf 4 RL (some .int) := Ctx.of B hml rfl
  have htb := CtxH.of B
  obtain ⟨E, hw, hsz, Z⟩ := h_start hg
  subst hsz
  have hl := lv_entry ([.ref (q 0), .int x1, .ref qo]) (n := 4) (Nat.le_of_ble_eq_true rfl)
  rw [lg_entry_eq]
  generalize (lg_sl ([.ref (q 0), .int x1, .ref qo]) ++ List.replicate (4 - (lg_sl ([.ref (q 0), .int x1, .ref qo])).length) Slot.unset).toArray = ls at hl ⊢
  have hl : lv_has ls 4 [(0, .ref (q 0)), (1, .int x1), (2, .ref qo)] := hl
  have hw : gW D (hw9 cI cL q qo (S, fo)) (xw cI q S ++ [oc cL qo fo]) s s.heap [] := hw
  refine lv_aload_n C.1 C.2.1 dL_nightOf_0 rfl (lv_at hl 2 rfl) ?_
  refine lv_iconst (v := 0) C.1 C.2.1 dL_nightOf_1 (by decide) ?_
  refine lv_aload_n C.1 C.2.1 dL_nightOf_2 rfl (lv_at hl 0 rfl) ?_
  refine lv_iload_n C.1 C.2.1 dL_nightOf_3 rfl (lv_at hl 1 rfl) ?_
  refine g_hcx (u0 := S) (rest := [.int 0, .ref qo]) hw (g_runHX (As := [.int x1]) (rest := [.int 0, .ref qo]) C E.E hw Z F_X3_nightOf rfl (ctX3_nightOf l hT (cI := cI) (D := D) (q := q) S x1 _ hf) km_L_89 rfl hl.1 rfl (Nat.le_of_ble_eq_true rfl) ⟨(Nat.le_of_ble_eq_true rfl), (Nat.le_of_ble_eq_true rfl)⟩ ⟨(Nat.le_of_ble_eq_true rfl), (Nat.le_of_ble_eq_true rfl)⟩ dL_nightOf_4) (fun v q9 ce H locs hp hw hce hcv hcl => ?_) (fun r u hp H locs hw => ?_)
  · obtain ⟨e9, S9⟩ := v
    obtain ⟨hp, hp2⟩ := hp
    have hp : R1 = Sum.inl e9 := hp
    have hp2 : S9 = S := hp2
    subst hp2
    have hcl : s.vm.findClass e9 = some ce.cls := hcl
    have hw : gW D (hw9 cI cL q qo (S9, fo)) (xw cI q S9 ++ [oc cL qo fo]) s H locs := hw
    rcases hE e9 hp with rfl
    · refine g_catch (cls := IOB) C E htb [] (0, 9, 12, 19) [] rfl (fun z hz => absurd hz List.not_mem_nil) (by decide) (by decide) kl_L_19 kcast_IOB hce hcv hcl ?_
      refine lv_astore_n (lv' := [(3, .ref q9), (0, .ref (q 0)), (1, .int x1), (2, .ref qo)]) C.1 C.2.1 dL_nightOf_12 rfl hl (by decide) rfl (fun ls hl => ?_)
      refine lv_iconst (v := 1) C.1 C.2.1 dL_nightOf_13 (by decide) ?_
      exact h_iret (u := (S9, fo)) C hw (Nat.le_of_ble_eq_true rfl) (Nat.le_of_ble_eq_true rfl) (Or.inr ⟨IOB, hp, by show (1 : Int32) = hcd [IOB] IOB; decide +kernel, rfl⟩) dL_nightOf_14
  · obtain ⟨hp, hp2⟩ := hp
    have hp2 : u = S := hp2
    subst hp2
    refine lv_i2l (v := Int32.toInt64 r) C.1 C.2.1 dL_nightOf_7 rfl ?_
    have hw : gW D (hw9 cI cL q qo (u, fo)) (xw cI q u ++ [oc cL qo fo]) s H locs := hw
    refine g_last1 C E hw dL_nightOf_8 (fun H locs hw => ?_)
    refine lv_goto (tgt := 15) C.1 C.2.1 dL_nightOf_9 (by decide) ?_
    refine lv_iconst (v := 0) C.1 C.2.1 dL_nightOf_15 (by decide) ?_
    exact h_iret (u := (u, vp_updL fo 0 (Int32.toInt64 r))) C hw (Nat.le_of_ble_eq_true rfl) (Nat.le_of_ble_eq_true rfl) (Or.inl ⟨r, hp, rfl, rfl⟩) dL_nightOf_16
theorem FH_matches : FctS0 yL_matches ∧ Cond.codeWith yL_matches cL_matches 5 (some .int) [(0, 17, 20, 19)] ∈ XALL ∧ (parseMethodDescriptor yL_matches.desc).map (fun d => d.parameters.length) = some 4 := ⟨⟨kt_yL_matches, by decide +kernel, by decide +kernel⟩, kw_yL_matches, by decide +kernel⟩
set_option maxHeartbeats 4000000 in
set_option maxRecDepth 100000 in
theorem ctL_matches (l : Launch) (hT : l.stackTraces = false) {D : va_G} {cI cL : ClassId} {q : Nat → Nat} {qo : Nat} (S : St) (fo : Nat → Int64) (x1 : Int32) (x2 : Int32) (sz : Nat) {R1 : ((String) ⊕ (Int32))} (hf : fX3_matches S x1 x2 = some R1) (hE : ∀ e : String, R1 = Sum.inl e → e = IOB) : Met l yL_matches (Cond.codeWith yL_matches cL_matches 5 (some .int) [(0, 17, 20, 19)] :: XALL) ({ frames := 8, cells := 2, slots := 12, locals := 133 } : Room) (va_Pc [.ref (q 0), .int x1, .int x2, .ref qo] (hPre D cI cL (hw9 cI cL q qo (S, fo)) sz)) (hQi D cI cL q qo (S, fo) (fun k u => (∃ r : Int32, R1 = Sum.inr r ∧ k = 0 ∧ u = (S, vp_updL fo 0 (if r = 0 then 0 else 1))) ∨ (∃ e : String, R1 = Sum.inl e ∧ k = hcd [IOB] e ∧ u = (S, fo))) sz) 2 12 (va_A (hw9 cI cL q qo (S, fo)) sz) := by
  refine va_MetW (cc := cL_matches) (maxL := 5) (ret := (some .int)) (hh := [(0, 17, 20, 19)]) (by decide) rfl ?_
  intro p e s m args below meth c s₁ B hml hv
  obtain ⟨rfl, hg⟩ := hv
  have C : Ctx p s m _ meth c cL_matches 5 RL (some .int) := Ctx.of B hml rfl
  have htb := CtxH.of B
  obtain ⟨E, hw, hsz, Z⟩ := h_start hg
  subst hsz
  have hl := lv_entry ([.ref (q 0), .int x1, .int x2, .ref qo]) (n := 5) (Nat.le_of_ble_eq_true rfl)
  rw [lg_entry_eq]
  generalize (lg_sl ([.ref (q 0), .int x1, .int x2, .ref qo]) ++ List.replicate (5 - (lg_sl ([.ref (q 0), .int x1, .int x2, .ref qo])).length) Slot.unset).toArray = ls at hl ⊢
  have hl : lv_has ls 5 [(0, .ref (q 0)), (1, .int x1), (2, .int x2), (3, .ref qo)] := hl
  have hw : gW D (hw9 cI cL q qo (S, fo)) (xw cI q S ++ [oc cL qo fo]) s s.heap [] := hw
  refine lv_aload_n C.1 C.2.1 dL_matches_0 rfl (lv_at hl 3 rfl) ?_
  refine lv_iconst (v := 0) C.1 C.2.1 dL_matches_1 (by decide) ?_
  refine lv_aload_n C.1 C.2.1 dL_matches_2 rfl (lv_at hl 0 rfl) ?_
  refine lv_iload_n C.1 C.2.1 dL_matches_3 rfl (lv_at hl 1 rfl) ?_
  refine lv_iload_n C.1 C.2.1 dL_matches_4 rfl (lv_at hl 2 rfl) ?_
  refine g_hcx (u0 := S) (rest := [.int 0, .ref qo]) hw (g_runHX (As := [.int x1, .int x2]) (rest := [.int 0, .ref qo]) C E.E hw Z F_X3_matches rfl (ctX3_matches l hT (cI := cI) (D := D) (q := q) S x1 x2 _ hf) km_L_92 rfl hl.1 rfl (Nat.le_of_ble_eq_true rfl) ⟨(Nat.le_of_ble_eq_true rfl), (Nat.le_of_ble_eq_true rfl)⟩ ⟨(Nat.le_of_ble_eq_true rfl), (Nat.le_of_ble_eq_true rfl)⟩ dL_matches_5) (fun v q9 ce H locs hp hw hce hcv hcl => ?_) (fun r u hp H locs hw => ?_)
  · obtain ⟨e9, S9⟩ := v
    obtain ⟨hp, hp2⟩ := hp
    have hp : R1 = Sum.inl e9 := hp
    have hp2 : S9 = S := hp2
    subst hp2
    have hcl : s.vm.findClass e9 = some ce.cls := hcl
    have hw : gW D (hw9 cI cL q qo (S9, fo)) (xw cI q S9 ++ [oc cL qo fo]) s H locs := hw
    rcases hE e9 hp with rfl
    · refine g_catch (cls := IOB) C E htb [] (0, 17, 20, 19) [] rfl (fun z hz => absurd hz List.not_mem_nil) (by decide) (by decide) kl_L_19 kcast_IOB hce hcv hcl ?_
      refine lv_astore (lv' := [(4, .ref q9), (0, .ref (q 0)), (1, .int x1), (2, .int x2), (3, .ref qo)]) C.1 C.2.1 dL_matches_20 hl (by decide) rfl (fun ls hl => ?_)
      refine lv_iconst (v := 1) C.1 C.2.1 dL_matches_22 (by decide) ?_
      exact h_iret (u := (S9, fo)) C hw (Nat.le_of_ble_eq_true rfl) (Nat.le_of_ble_eq_true rfl) (Or.inr ⟨IOB, hp, by show (1 : Int32) = hcd [IOB] IOB; decide +kernel, rfl⟩) dL_matches_23
  · obtain ⟨hp, hp2⟩ := hp
    have hp2 : u = S := hp2
    subst hp2
    have hw : gW D (hw9 cI cL q qo (u, fo)) (xw cI q u ++ [oc cL qo fo]) s H locs := hw
    refine lv_if_eq (tgt := 15) C.1 C.2.1 dL_matches_8 (by decide) (fun hc => ?_) (fun hc => ?_)
    · refine lv_lconst (v := 0) C.1 C.2.1 dL_matches_15 (by decide) ?_
      refine g_last1 C E hw dL_matches_16 (fun H locs hw => ?_)
      refine lv_goto (tgt := 24) C.1 C.2.1 dL_matches_17 (by decide) ?_
      refine lv_iconst (v := 0) C.1 C.2.1 dL_matches_24 (by decide) ?_
      exact h_iret (u := (u, vp_updL fo 0 0)) C hw (Nat.le_of_ble_eq_true rfl) (Nat.le_of_ble_eq_true rfl) (Or.inl ⟨r, hp, rfl, by rw [if_pos hc]⟩) dL_matches_25
    · refine lv_lconst (v := 1) C.1 C.2.1 dL_matches_11 (by decide) ?_
      refine lv_goto (tgt := 16) C.1 C.2.1 dL_matches_12 (by decide) ?_
      refine g_last1 C E hw dL_matches_16 (fun H locs hw => ?_)
      refine lv_goto (tgt := 24) C.1 C.2.1 dL_matches_17 (by decide) ?_
      refine lv_iconst (v := 0) C.1 C.2.1 dL_matches_24 (by decide) ?_
      exact h_iret (u := (u, vp_updL fo 0 1)) C hw (Nat.le_of_ble_eq_true rfl) (Nat.le_of_ble_eq_true rfl) (Or.inl ⟨r, hp, rfl, by rw [if_neg hc]⟩) dL_matches_25
theorem FH_matchesOf : FctS0 yL_matchesOf ∧ Cond.codeWith yL_matchesOf cL_matchesOf 4 (some .int) [(0, 9, 12, 19)] ∈ XALL ∧ (parseMethodDescriptor yL_matchesOf.desc).map (fun d => d.parameters.length) = some 3 := ⟨⟨kt_yL_matchesOf, by decide +kernel, by decide +kernel⟩, kw_yL_matchesOf, by decide +kernel⟩
set_option maxHeartbeats 4000000 in
set_option maxRecDepth 100000 in
theorem ctL_matchesOf (l : Launch) (hT : l.stackTraces = false) {D : va_G} {cI cL : ClassId} {q : Nat → Nat} {qo : Nat} (S : St) (fo : Nat → Int64) (x1 : Int32) (sz : Nat) {R1 : ((String) ⊕ (Int32))} (hf : fX3_matchesOf S x1 = some R1) (hE : ∀ e : String, R1 = Sum.inl e → e = IOB) : Met l yL_matchesOf (Cond.codeWith yL_matchesOf cL_matchesOf 4 (some .int) [(0, 9, 12, 19)] :: XALL) ({ frames := 8, cells := 1, slots := 6, locals := 132 } : Room) (va_Pc [.ref (q 0), .int x1, .ref qo] (hPre D cI cL (hw9 cI cL q qo (S, fo)) sz)) (hQi D cI cL q qo (S, fo) (fun k u => (∃ r : Int32, R1 = Sum.inr r ∧ k = 0 ∧ u = (S, vp_updL fo 0 (Int32.toInt64 r))) ∨ (∃ e : String, R1 = Sum.inl e ∧ k = hcd [IOB] e ∧ u = (S, fo))) sz) 1 6 (va_A (hw9 cI cL q qo (S, fo)) sz) := by
  refine va_MetW (cc := cL_matchesOf) (maxL := 4) (ret := (some .int)) (hh := [(0, 9, 12, 19)]) (by decide) rfl ?_
  intro p e s m args below meth c s₁ B hml hv
  obtain ⟨rfl, hg⟩ := hv
  have C : Ctx p s m _ meth c cL_matchesOf 4 RL (some .int) := Ctx.of B hml rfl
  have htb := CtxH.of B
  obtain ⟨E, hw, hsz, Z⟩ := h_start hg
  subst hsz
  have hl := lv_entry ([.ref (q 0), .int x1, .ref qo]) (n := 4) (Nat.le_of_ble_eq_true rfl)
  rw [lg_entry_eq]
  generalize (lg_sl ([.ref (q 0), .int x1, .ref qo]) ++ List.replicate (4 - (lg_sl ([.ref (q 0), .int x1, .ref qo])).length) Slot.unset).toArray = ls at hl ⊢
  have hl : lv_has ls 4 [(0, .ref (q 0)), (1, .int x1), (2, .ref qo)] := hl
  have hw : gW D (hw9 cI cL q qo (S, fo)) (xw cI q S ++ [oc cL qo fo]) s s.heap [] := hw
  refine lv_aload_n C.1 C.2.1 dL_matchesOf_0 rfl (lv_at hl 2 rfl) ?_
  refine lv_iconst (v := 0) C.1 C.2.1 dL_matchesOf_1 (by decide) ?_
  refine lv_aload_n C.1 C.2.1 dL_matchesOf_2 rfl (lv_at hl 0 rfl) ?_
  refine lv_iload_n C.1 C.2.1 dL_matchesOf_3 rfl (lv_at hl 1 rfl) ?_
  refine g_hcx (u0 := S) (rest := [.int 0, .ref qo]) hw (g_runHX (As := [.int x1]) (rest := [.int 0, .ref qo]) C E.E hw Z F_X3_matchesOf rfl (ctX3_matchesOf l hT (cI := cI) (D := D) (q := q) S x1 _ hf) km_L_95 rfl hl.1 rfl (Nat.le_of_ble_eq_true rfl) ⟨(Nat.le_of_ble_eq_true rfl), (Nat.le_of_ble_eq_true rfl)⟩ ⟨(Nat.le_of_ble_eq_true rfl), (Nat.le_of_ble_eq_true rfl)⟩ dL_matchesOf_4) (fun v q9 ce H locs hp hw hce hcv hcl => ?_) (fun r u hp H locs hw => ?_)
  · obtain ⟨e9, S9⟩ := v
    obtain ⟨hp, hp2⟩ := hp
    have hp : R1 = Sum.inl e9 := hp
    have hp2 : S9 = S := hp2
    subst hp2
    have hcl : s.vm.findClass e9 = some ce.cls := hcl
    have hw : gW D (hw9 cI cL q qo (S9, fo)) (xw cI q S9 ++ [oc cL qo fo]) s H locs := hw
    rcases hE e9 hp with rfl
    · refine g_catch (cls := IOB) C E htb [] (0, 9, 12, 19) [] rfl (fun z hz => absurd hz List.not_mem_nil) (by decide) (by decide) kl_L_19 kcast_IOB hce hcv hcl ?_
      refine lv_astore_n (lv' := [(3, .ref q9), (0, .ref (q 0)), (1, .int x1), (2, .ref qo)]) C.1 C.2.1 dL_matchesOf_12 rfl hl (by decide) rfl (fun ls hl => ?_)
      refine lv_iconst (v := 1) C.1 C.2.1 dL_matchesOf_13 (by decide) ?_
      exact h_iret (u := (S9, fo)) C hw (Nat.le_of_ble_eq_true rfl) (Nat.le_of_ble_eq_true rfl) (Or.inr ⟨IOB, hp, by show (1 : Int32) = hcd [IOB] IOB; decide +kernel, rfl⟩) dL_matchesOf_14
  · obtain ⟨hp, hp2⟩ := hp
    have hp2 : u = S := hp2
    subst hp2
    refine lv_i2l (v := Int32.toInt64 r) C.1 C.2.1 dL_matchesOf_7 rfl ?_
    have hw : gW D (hw9 cI cL q qo (u, fo)) (xw cI q u ++ [oc cL qo fo]) s H locs := hw
    refine g_last1 C E hw dL_matchesOf_8 (fun H locs hw => ?_)
    refine lv_goto (tgt := 15) C.1 C.2.1 dL_matchesOf_9 (by decide) ?_
    refine lv_iconst (v := 0) C.1 C.2.1 dL_matchesOf_15 (by decide) ?_
    exact h_iret (u := (u, vp_updL fo 0 (Int32.toInt64 r))) C hw (Nat.le_of_ble_eq_true rfl) (Nat.le_of_ble_eq_true rfl) (Or.inl ⟨r, hp, rfl, rfl⟩) dL_matchesOf_16
theorem FH_mostVivid : FctS0 yL_mostVivid ∧ Cond.codeWith yL_mostVivid cL_mostVivid 4 (some .int) [(0, 9, 12, 19)] ∈ XALL ∧ (parseMethodDescriptor yL_mostVivid.desc).map (fun d => d.parameters.length) = some 3 := ⟨⟨kt_yL_mostVivid, by decide +kernel, by decide +kernel⟩, kw_yL_mostVivid, by decide +kernel⟩
set_option maxHeartbeats 4000000 in
set_option maxRecDepth 100000 in
theorem ctL_mostVivid (l : Launch) (hT : l.stackTraces = false) {D : va_G} {cI cL : ClassId} {q : Nat → Nat} {qo : Nat} (S : St) (fo : Nat → Int64) (x1 : Int32) (sz : Nat) {R1 : ((String) ⊕ (Int32))} (hf : fX3_mostVivid S x1 = some R1) (hE : ∀ e : String, R1 = Sum.inl e → e = IOB) : Met l yL_mostVivid (Cond.codeWith yL_mostVivid cL_mostVivid 4 (some .int) [(0, 9, 12, 19)] :: XALL) ({ frames := 8, cells := 1, slots := 6, locals := 132 } : Room) (va_Pc [.ref (q 0), .int x1, .ref qo] (hPre D cI cL (hw9 cI cL q qo (S, fo)) sz)) (hQi D cI cL q qo (S, fo) (fun k u => (∃ r : Int32, R1 = Sum.inr r ∧ k = 0 ∧ u = (S, vp_updL fo 0 (Int32.toInt64 r))) ∨ (∃ e : String, R1 = Sum.inl e ∧ k = hcd [IOB] e ∧ u = (S, fo))) sz) 1 6 (va_A (hw9 cI cL q qo (S, fo)) sz) := by
  refine va_MetW (cc := cL_mostVivid) (maxL := 4) (ret := (some .int)) (hh := [(0, 9, 12, 19)]) (by decide) rfl ?_
  intro p e s m args below meth c s₁ B hml hv
  obtain ⟨rfl, hg⟩ := hv
  have C : Ctx p s m _ meth c cL_mostVivid 4 RL (some .int) := Ctx.of B hml rfl
  have htb := CtxH.of B
  obtain ⟨E, hw, hsz, Z⟩ := h_start hg
  subst hsz
  have hl := lv_entry ([.ref (q 0), .int x1, .ref qo]) (n := 4) (Nat.le_of_ble_eq_true rfl)
  rw [lg_entry_eq]
  generalize (lg_sl ([.ref (q 0), .int x1, .ref qo]) ++ List.replicate (4 - (lg_sl ([.ref (q 0), .int x1, .ref qo])).length) Slot.unset).toArray = ls at hl ⊢
  have hl : lv_has ls 4 [(0, .ref (q 0)), (1, .int x1), (2, .ref qo)] := hl
  have hw : gW D (hw9 cI cL q qo (S, fo)) (xw cI q S ++ [oc cL qo fo]) s s.heap [] := hw
  refine lv_aload_n C.1 C.2.1 dL_mostVivid_0 rfl (lv_at hl 2 rfl) ?_
  refine lv_iconst (v := 0) C.1 C.2.1 dL_mostVivid_1 (by decide) ?_
  refine lv_aload_n C.1 C.2.1 dL_mostVivid_2 rfl (lv_at hl 0 rfl) ?_
  refine lv_iload_n C.1 C.2.1 dL_mostVivid_3 rfl (lv_at hl 1 rfl) ?_
  refine g_hcx (u0 := S) (rest := [.int 0, .ref qo]) hw (g_runHX (As := [.int x1]) (rest := [.int 0, .ref qo]) C E.E hw Z F_X3_mostVivid rfl (ctX3_mostVivid l hT (cI := cI) (D := D) (q := q) S x1 _ hf) km_L_98 rfl hl.1 rfl (Nat.le_of_ble_eq_true rfl) ⟨(Nat.le_of_ble_eq_true rfl), (Nat.le_of_ble_eq_true rfl)⟩ ⟨(Nat.le_of_ble_eq_true rfl), (Nat.le_of_ble_eq_true rfl)⟩ dL_mostVivid_4) (fun v q9 ce H locs hp hw hce hcv hcl => ?_) (fun r u hp H locs hw => ?_)
  · obtain ⟨e9, S9⟩ := v
    obtain ⟨hp, hp2⟩ := hp
    have hp : R1 = Sum.inl e9 := hp
    have hp2 : S9 = S := hp2
    subst hp2
    have hcl : s.vm.findClass e9 = some ce.cls := hcl
    have hw : gW D (hw9 cI cL q qo (S9, fo)) (xw cI q S9 ++ [oc cL qo fo]) s H locs := hw
    rcases hE e9 hp with rfl
    · refine g_catch (cls := IOB) C E htb [] (0, 9, 12, 19) [] rfl (fun z hz => absurd hz List.not_mem_nil) (by decide) (by decide) kl_L_19 kcast_IOB hce hcv hcl ?_
      refine lv_astore_n (lv' := [(3, .ref q9), (0, .ref (q 0)), (1, .int x1), (2, .ref qo)]) C.1 C.2.1 dL_mostVivid_12 rfl hl (by decide) rfl (fun ls hl => ?_)
      refine lv_iconst (v := 1) C.1 C.2.1 dL_mostVivid_13 (by decide) ?_
      exact h_iret (u := (S9, fo)) C hw (Nat.le_of_ble_eq_true rfl) (Nat.le_of_ble_eq_true rfl) (Or.inr ⟨IOB, hp, by show (1 : Int32) = hcd [IOB] IOB; decide +kernel, rfl⟩) dL_mostVivid_14
  · obtain ⟨hp, hp2⟩ := hp
    have hp2 : u = S := hp2
    subst hp2
    refine lv_i2l (v := Int32.toInt64 r) C.1 C.2.1 dL_mostVivid_7 rfl ?_
    have hw : gW D (hw9 cI cL q qo (u, fo)) (xw cI q u ++ [oc cL qo fo]) s H locs := hw
    refine g_last1 C E hw dL_mostVivid_8 (fun H locs hw => ?_)
    refine lv_goto (tgt := 15) C.1 C.2.1 dL_mostVivid_9 (by decide) ?_
    refine lv_iconst (v := 0) C.1 C.2.1 dL_mostVivid_15 (by decide) ?_
    exact h_iret (u := (u, vp_updL fo 0 (Int32.toInt64 r))) C hw (Nat.le_of_ble_eq_true rfl) (Nat.le_of_ble_eq_true rfl) (Or.inl ⟨r, hp, rfl, rfl⟩) dL_mostVivid_16
theorem FH_commonTags : FctS0 yL_commonTags ∧ Cond.codeWith yL_commonTags cL_commonTags 4 (some .int) [(0, 9, 12, 19)] ∈ XALL ∧ (parseMethodDescriptor yL_commonTags.desc).map (fun d => d.parameters.length) = some 3 := ⟨⟨kt_yL_commonTags, by decide +kernel, by decide +kernel⟩, kw_yL_commonTags, by decide +kernel⟩
set_option maxHeartbeats 4000000 in
set_option maxRecDepth 100000 in
theorem ctL_commonTags (l : Launch) (hT : l.stackTraces = false) {D : va_G} {cI cL : ClassId} {q : Nat → Nat} {qo : Nat} (S : St) (fo : Nat → Int64) (x1 : Int32) (sz : Nat) {R1 : ((String) ⊕ (Int32))} (hf : fX3_commonTags S x1 = some R1) (hE : ∀ e : String, R1 = Sum.inl e → e = IOB) : Met l yL_commonTags (Cond.codeWith yL_commonTags cL_commonTags 4 (some .int) [(0, 9, 12, 19)] :: XALL) ({ frames := 8, cells := 1, slots := 6, locals := 132 } : Room) (va_Pc [.ref (q 0), .int x1, .ref qo] (hPre D cI cL (hw9 cI cL q qo (S, fo)) sz)) (hQi D cI cL q qo (S, fo) (fun k u => (∃ r : Int32, R1 = Sum.inr r ∧ k = 0 ∧ u = (S, vp_updL fo 0 (Int32.toInt64 r))) ∨ (∃ e : String, R1 = Sum.inl e ∧ k = hcd [IOB] e ∧ u = (S, fo))) sz) 1 6 (va_A (hw9 cI cL q qo (S, fo)) sz) := by
  refine va_MetW (cc := cL_commonTags) (maxL := 4) (ret := (some .int)) (hh := [(0, 9, 12, 19)]) (by decide) rfl ?_
  intro p e s m args below meth c s₁ B hml hv
  obtain ⟨rfl, hg⟩ := hv
  have C : Ctx p s m _ meth c cL_commonTags 4 RL (some .int) := Ctx.of B hml rfl
  have htb := CtxH.of B
  obtain ⟨E, hw, hsz, Z⟩ := h_start hg
  subst hsz
  have hl := lv_entry ([.ref (q 0), .int x1, .ref qo]) (n := 4) (Nat.le_of_ble_eq_true rfl)
  rw [lg_entry_eq]
  generalize (lg_sl ([.ref (q 0), .int x1, .ref qo]) ++ List.replicate (4 - (lg_sl ([.ref (q 0), .int x1, .ref qo])).length) Slot.unset).toArray = ls at hl ⊢
  have hl : lv_has ls 4 [(0, .ref (q 0)), (1, .int x1), (2, .ref qo)] := hl
  have hw : gW D (hw9 cI cL q qo (S, fo)) (xw cI q S ++ [oc cL qo fo]) s s.heap [] := hw
  refine lv_aload_n C.1 C.2.1 dL_commonTags_0 rfl (lv_at hl 2 rfl) ?_
  refine lv_iconst (v := 0) C.1 C.2.1 dL_commonTags_1 (by decide) ?_
  refine lv_aload_n C.1 C.2.1 dL_commonTags_2 rfl (lv_at hl 0 rfl) ?_
  refine lv_iload_n C.1 C.2.1 dL_commonTags_3 rfl (lv_at hl 1 rfl) ?_
  refine g_hcx (u0 := S) (rest := [.int 0, .ref qo]) hw (g_runHX (As := [.int x1]) (rest := [.int 0, .ref qo]) C E.E hw Z F_X3_commonTags rfl (ctX3_commonTags l hT (cI := cI) (D := D) (q := q) S x1 _ hf) km_L_101 rfl hl.1 rfl (Nat.le_of_ble_eq_true rfl) ⟨(Nat.le_of_ble_eq_true rfl), (Nat.le_of_ble_eq_true rfl)⟩ ⟨(Nat.le_of_ble_eq_true rfl), (Nat.le_of_ble_eq_true rfl)⟩ dL_commonTags_4) (fun v q9 ce H locs hp hw hce hcv hcl => ?_) (fun r u hp H locs hw => ?_)
  · obtain ⟨e9, S9⟩ := v
    obtain ⟨hp, hp2⟩ := hp
    have hp : R1 = Sum.inl e9 := hp
    have hp2 : S9 = S := hp2
    subst hp2
    have hcl : s.vm.findClass e9 = some ce.cls := hcl
    have hw : gW D (hw9 cI cL q qo (S9, fo)) (xw cI q S9 ++ [oc cL qo fo]) s H locs := hw
    rcases hE e9 hp with rfl
    · refine g_catch (cls := IOB) C E htb [] (0, 9, 12, 19) [] rfl (fun z hz => absurd hz List.not_mem_nil) (by decide) (by decide) kl_L_19 kcast_IOB hce hcv hcl ?_
      refine lv_astore_n (lv' := [(3, .ref q9), (0, .ref (q 0)), (1, .int x1), (2, .ref qo)]) C.1 C.2.1 dL_commonTags_12 rfl hl (by decide) rfl (fun ls hl => ?_)
      refine lv_iconst (v := 1) C.1 C.2.1 dL_commonTags_13 (by decide) ?_
      exact h_iret (u := (S9, fo)) C hw (Nat.le_of_ble_eq_true rfl) (Nat.le_of_ble_eq_true rfl) (Or.inr ⟨IOB, hp, by show (1 : Int32) = hcd [IOB] IOB; decide +kernel, rfl⟩) dL_commonTags_14
  · obtain ⟨hp, hp2⟩ := hp
    have hp2 : u = S := hp2
    subst hp2
    refine lv_i2l (v := Int32.toInt64 r) C.1 C.2.1 dL_commonTags_7 rfl ?_
    have hw : gW D (hw9 cI cL q qo (u, fo)) (xw cI q u ++ [oc cL qo fo]) s H locs := hw
    refine g_last1 C E hw dL_commonTags_8 (fun H locs hw => ?_)
    refine lv_goto (tgt := 15) C.1 C.2.1 dL_commonTags_9 (by decide) ?_
    refine lv_iconst (v := 0) C.1 C.2.1 dL_commonTags_15 (by decide) ?_
    exact h_iret (u := (u, vp_updL fo 0 (Int32.toInt64 r))) C hw (Nat.le_of_ble_eq_true rfl) (Nat.le_of_ble_eq_true rfl) (Or.inl ⟨r, hp, rfl, rfl⟩) dL_commonTags_16
theorem FH_matchSame : FctS0 yL_matchSame ∧ Cond.codeWith yL_matchSame cL_matchSame 5 (some .int) [(0, 17, 20, 19)] ∈ XALL ∧ (parseMethodDescriptor yL_matchSame.desc).map (fun d => d.parameters.length) = some 4 := ⟨⟨kt_yL_matchSame, by decide +kernel, by decide +kernel⟩, kw_yL_matchSame, by decide +kernel⟩
set_option maxHeartbeats 4000000 in
set_option maxRecDepth 100000 in
theorem ctL_matchSame (l : Launch) (hT : l.stackTraces = false) {D : va_G} {cI cL : ClassId} {q : Nat → Nat} {qo : Nat} (S : St) (fo : Nat → Int64) (x1 : Int32) (x2 : Int32) (sz : Nat) {R1 : ((String) ⊕ (Int32))} (hf : fX3_matchSame S x1 x2 = some R1) (hE : ∀ e : String, R1 = Sum.inl e → e = IOB) : Met l yL_matchSame (Cond.codeWith yL_matchSame cL_matchSame 5 (some .int) [(0, 17, 20, 19)] :: XALL) ({ frames := 8, cells := 2, slots := 12, locals := 133 } : Room) (va_Pc [.ref (q 0), .int x1, .int x2, .ref qo] (hPre D cI cL (hw9 cI cL q qo (S, fo)) sz)) (hQi D cI cL q qo (S, fo) (fun k u => (∃ r : Int32, R1 = Sum.inr r ∧ k = 0 ∧ u = (S, vp_updL fo 0 (if r = 0 then 0 else 1))) ∨ (∃ e : String, R1 = Sum.inl e ∧ k = hcd [IOB] e ∧ u = (S, fo))) sz) 2 12 (va_A (hw9 cI cL q qo (S, fo)) sz) := by
  refine va_MetW (cc := cL_matchSame) (maxL := 5) (ret := (some .int)) (hh := [(0, 17, 20, 19)]) (by decide) rfl ?_
  intro p e s m args below meth c s₁ B hml hv
  obtain ⟨rfl, hg⟩ := hv
  have C : Ctx p s m _ meth c cL_matchSame 5 RL (some .int) := Ctx.of B hml rfl
  have htb := CtxH.of B
  obtain ⟨E, hw, hsz, Z⟩ := h_start hg
  subst hsz
  have hl := lv_entry ([.ref (q 0), .int x1, .int x2, .ref qo]) (n := 5) (Nat.le_of_ble_eq_true rfl)
  rw [lg_entry_eq]
  generalize (lg_sl ([.ref (q 0), .int x1, .int x2, .ref qo]) ++ List.replicate (5 - (lg_sl ([.ref (q 0), .int x1, .int x2, .ref qo])).length) Slot.unset).toArray = ls at hl ⊢
  have hl : lv_has ls 5 [(0, .ref (q 0)), (1, .int x1), (2, .int x2), (3, .ref qo)] := hl
  have hw : gW D (hw9 cI cL q qo (S, fo)) (xw cI q S ++ [oc cL qo fo]) s s.heap [] := hw
  refine lv_aload_n C.1 C.2.1 dL_matchSame_0 rfl (lv_at hl 3 rfl) ?_
  refine lv_iconst (v := 0) C.1 C.2.1 dL_matchSame_1 (by decide) ?_
  refine lv_aload_n C.1 C.2.1 dL_matchSame_2 rfl (lv_at hl 0 rfl) ?_
  refine lv_iload_n C.1 C.2.1 dL_matchSame_3 rfl (lv_at hl 1 rfl) ?_
  refine lv_iload_n C.1 C.2.1 dL_matchSame_4 rfl (lv_at hl 2 rfl) ?_
  refine g_hcx (u0 := S) (rest := [.int 0, .ref qo]) hw (g_runHX (As := [.int x1, .int x2]) (rest := [.int 0, .ref qo]) C E.E hw Z F_X3_matchSame rfl (ctX3_matchSame l hT (cI := cI) (D := D) (q := q) S x1 x2 _ hf) km_L_104 rfl hl.1 rfl (Nat.le_of_ble_eq_true rfl) ⟨(Nat.le_of_ble_eq_true rfl), (Nat.le_of_ble_eq_true rfl)⟩ ⟨(Nat.le_of_ble_eq_true rfl), (Nat.le_of_ble_eq_true rfl)⟩ dL_matchSame_5) (fun v q9 ce H locs hp hw hce hcv hcl => ?_) (fun r u hp H locs hw => ?_)
  · obtain ⟨e9, S9⟩ := v
    obtain ⟨hp, hp2⟩ := hp
    have hp : R1 = Sum.inl e9 := hp
    have hp2 : S9 = S := hp2
    subst hp2
    have hcl : s.vm.findClass e9 = some ce.cls := hcl
    have hw : gW D (hw9 cI cL q qo (S9, fo)) (xw cI q S9 ++ [oc cL qo fo]) s H locs := hw
    rcases hE e9 hp with rfl
    · refine g_catch (cls := IOB) C E htb [] (0, 17, 20, 19) [] rfl (fun z hz => absurd hz List.not_mem_nil) (by decide) (by decide) kl_L_19 kcast_IOB hce hcv hcl ?_
      refine lv_astore (lv' := [(4, .ref q9), (0, .ref (q 0)), (1, .int x1), (2, .int x2), (3, .ref qo)]) C.1 C.2.1 dL_matchSame_20 hl (by decide) rfl (fun ls hl => ?_)
      refine lv_iconst (v := 1) C.1 C.2.1 dL_matchSame_22 (by decide) ?_
      exact h_iret (u := (S9, fo)) C hw (Nat.le_of_ble_eq_true rfl) (Nat.le_of_ble_eq_true rfl) (Or.inr ⟨IOB, hp, by show (1 : Int32) = hcd [IOB] IOB; decide +kernel, rfl⟩) dL_matchSame_23
  · obtain ⟨hp, hp2⟩ := hp
    have hp2 : u = S := hp2
    subst hp2
    have hw : gW D (hw9 cI cL q qo (u, fo)) (xw cI q u ++ [oc cL qo fo]) s H locs := hw
    refine lv_if_eq (tgt := 15) C.1 C.2.1 dL_matchSame_8 (by decide) (fun hc => ?_) (fun hc => ?_)
    · refine lv_lconst (v := 0) C.1 C.2.1 dL_matchSame_15 (by decide) ?_
      refine g_last1 C E hw dL_matchSame_16 (fun H locs hw => ?_)
      refine lv_goto (tgt := 24) C.1 C.2.1 dL_matchSame_17 (by decide) ?_
      refine lv_iconst (v := 0) C.1 C.2.1 dL_matchSame_24 (by decide) ?_
      exact h_iret (u := (u, vp_updL fo 0 0)) C hw (Nat.le_of_ble_eq_true rfl) (Nat.le_of_ble_eq_true rfl) (Or.inl ⟨r, hp, rfl, by rw [if_pos hc]⟩) dL_matchSame_25
    · refine lv_lconst (v := 1) C.1 C.2.1 dL_matchSame_11 (by decide) ?_
      refine lv_goto (tgt := 16) C.1 C.2.1 dL_matchSame_12 (by decide) ?_
      refine g_last1 C E hw dL_matchSame_16 (fun H locs hw => ?_)
      refine lv_goto (tgt := 24) C.1 C.2.1 dL_matchSame_17 (by decide) ?_
      refine lv_iconst (v := 0) C.1 C.2.1 dL_matchSame_24 (by decide) ?_
      exact h_iret (u := (u, vp_updL fo 0 1)) C hw (Nat.le_of_ble_eq_true rfl) (Nat.le_of_ble_eq_true rfl) (Or.inl ⟨r, hp, rfl, by rw [if_neg hc]⟩) dL_matchSame_25
theorem FH_coverSize : FctS0 yL_coverSize ∧ Cond.codeWith yL_coverSize cL_coverSize 4 (some .int) [(0, 9, 12, 19)] ∈ XALL ∧ (parseMethodDescriptor yL_coverSize.desc).map (fun d => d.parameters.length) = some 3 := ⟨⟨kt_yL_coverSize, by decide +kernel, by decide +kernel⟩, kw_yL_coverSize, by decide +kernel⟩
set_option maxHeartbeats 4000000 in
set_option maxRecDepth 100000 in
theorem ctL_coverSize (l : Launch) (hT : l.stackTraces = false) {D : va_G} {cI cL : ClassId} {q : Nat → Nat} {qo : Nat} (S : St) (fo : Nat → Int64) (x1 : Int32) (sz : Nat) {R1 : ((String × St) ⊕ (Int32 × St))} (hf : fX3_coverSize S x1 = some R1) (hE : ∀ (e : String) (S1 : St), R1 = Sum.inl (e, S1) → e = IOB) : Met l yL_coverSize (Cond.codeWith yL_coverSize cL_coverSize 4 (some .int) [(0, 9, 12, 19)] :: XALL) ({ frames := 24, cells := 1, slots := 6, locals := 893 } : Room) (va_Pc [.ref (q 0), .int x1, .ref qo] (hPre D cI cL (hw9 cI cL q qo (S, fo)) sz)) (hQi D cI cL q qo (S, fo) (fun k u => (∃ (r : Int32) (S1 : St), R1 = Sum.inr (r, S1) ∧ k = 0 ∧ u = (S1, vp_updL fo 0 (Int32.toInt64 r))) ∨ (∃ v : String × St, R1 = Sum.inl v ∧ k = hcd [IOB] v.1 ∧ u = (v.2, fo))) sz) 1 6 (va_A (hw9 cI cL q qo (S, fo)) sz) := by
  refine va_MetW (cc := cL_coverSize) (maxL := 4) (ret := (some .int)) (hh := [(0, 9, 12, 19)]) (by decide) rfl ?_
  intro p e s m args below meth c s₁ B hml hv
  obtain ⟨rfl, hg⟩ := hv
  have C : Ctx p s m _ meth c cL_coverSize 4 RL (some .int) := Ctx.of B hml rfl
  have htb := CtxH.of B
  obtain ⟨E, hw, hsz, Z⟩ := h_start hg
  subst hsz
  have hl := lv_entry ([.ref (q 0), .int x1, .ref qo]) (n := 4) (Nat.le_of_ble_eq_true rfl)
  rw [lg_entry_eq]
  generalize (lg_sl ([.ref (q 0), .int x1, .ref qo]) ++ List.replicate (4 - (lg_sl ([.ref (q 0), .int x1, .ref qo])).length) Slot.unset).toArray = ls at hl ⊢
  have hl : lv_has ls 4 [(0, .ref (q 0)), (1, .int x1), (2, .ref qo)] := hl
  have hw : gW D (hw9 cI cL q qo (S, fo)) (xw cI q S ++ [oc cL qo fo]) s s.heap [] := hw
  refine lv_aload_n C.1 C.2.1 dL_coverSize_0 rfl (lv_at hl 2 rfl) ?_
  refine lv_iconst (v := 0) C.1 C.2.1 dL_coverSize_1 (by decide) ?_
  refine lv_aload_n C.1 C.2.1 dL_coverSize_2 rfl (lv_at hl 0 rfl) ?_
  refine lv_iload_n C.1 C.2.1 dL_coverSize_3 rfl (lv_at hl 1 rfl) ?_
  refine g_hcx (u0 := S) (rest := [.int 0, .ref qo]) hw (g_runHX (As := [.int x1]) (rest := [.int 0, .ref qo]) C E.E hw Z F_X3_coverSize rfl (ctX3_coverSize l hT (cI := cI) (D := D) (q := q) S x1 _ hf) km_L_107 rfl hl.1 rfl (Nat.le_of_ble_eq_true rfl) ⟨(Nat.le_of_ble_eq_true rfl), (Nat.le_of_ble_eq_true rfl)⟩ ⟨(Nat.le_of_ble_eq_true rfl), (Nat.le_of_ble_eq_true rfl)⟩ dL_coverSize_4) (fun v q9 ce H locs hp hw hce hcv hcl => ?_) (fun r u hp H locs hw => ?_)
  · obtain ⟨e9, S9⟩ := v
    have hp : R1 = Sum.inl (e9, S9) := hp
    have hcl : s.vm.findClass e9 = some ce.cls := hcl
    have hw : gW D (hw9 cI cL q qo (S, fo)) (xw cI q S9 ++ [oc cL qo fo]) s H locs := hw
    rcases hE e9 S9 hp with rfl
    · refine g_catch (cls := IOB) C E htb [] (0, 9, 12, 19) [] rfl (fun z hz => absurd hz List.not_mem_nil) (by decide) (by decide) kl_L_19 kcast_IOB hce hcv hcl ?_
      refine lv_astore_n (lv' := [(3, .ref q9), (0, .ref (q 0)), (1, .int x1), (2, .ref qo)]) C.1 C.2.1 dL_coverSize_12 rfl hl (by decide) rfl (fun ls hl => ?_)
      refine lv_iconst (v := 1) C.1 C.2.1 dL_coverSize_13 (by decide) ?_
      exact h_iret (u := (S9, fo)) C hw (Nat.le_of_ble_eq_true rfl) (Nat.le_of_ble_eq_true rfl) (Or.inr ⟨(IOB, S9), hp, by show (1 : Int32) = hcd [IOB] IOB; decide +kernel, rfl⟩) dL_coverSize_14
  · have hp : R1 = Sum.inr (r, u) := hp
    refine lv_i2l (v := Int32.toInt64 r) C.1 C.2.1 dL_coverSize_7 rfl ?_
    have hw : gW D (hw9 cI cL q qo (S, fo)) (xw cI q u ++ [oc cL qo fo]) s H locs := hw
    refine g_last1 C E hw dL_coverSize_8 (fun H locs hw => ?_)
    refine lv_goto (tgt := 15) C.1 C.2.1 dL_coverSize_9 (by decide) ?_
    refine lv_iconst (v := 0) C.1 C.2.1 dL_coverSize_15 (by decide) ?_
    exact h_iret (u := (u, vp_updL fo 0 (Int32.toInt64 r))) C hw (Nat.le_of_ble_eq_true rfl) (Nat.le_of_ble_eq_true rfl) (Or.inl ⟨r, u, hp, rfl, rfl⟩) dL_coverSize_16
theorem FH_coverTag : FctS0 yL_coverTag ∧ Cond.codeWith yL_coverTag cL_coverTag 5 (some .int) [(0, 10, 13, 19)] ∈ XALL ∧ (parseMethodDescriptor yL_coverTag.desc).map (fun d => d.parameters.length) = some 4 := ⟨⟨kt_yL_coverTag, by decide +kernel, by decide +kernel⟩, kw_yL_coverTag, by decide +kernel⟩
set_option maxHeartbeats 4000000 in
set_option maxRecDepth 100000 in
theorem ctL_coverTag (l : Launch) (hT : l.stackTraces = false) {D : va_G} {cI cL : ClassId} {q : Nat → Nat} {qo : Nat} (S : St) (fo : Nat → Int64) (x1 : Int32) (x2 : Int32) (sz : Nat) {R1 : ((String × St) ⊕ (Int32 × St))} (hf : fX3_coverTag S x1 x2 = some R1) (hE : ∀ (e : String) (S1 : St), R1 = Sum.inl (e, S1) → e = IOB) : Met l yL_coverTag (Cond.codeWith yL_coverTag cL_coverTag 5 (some .int) [(0, 10, 13, 19)] :: XALL) ({ frames := 24, cells := 2, slots := 12, locals := 895 } : Room) (va_Pc [.ref (q 0), .int x1, .int x2, .ref qo] (hPre D cI cL (hw9 cI cL q qo (S, fo)) sz)) (hQi D cI cL q qo (S, fo) (fun k u => (∃ (r : Int32) (S1 : St), R1 = Sum.inr (r, S1) ∧ k = 0 ∧ u = (S1, vp_updL fo 0 (Int32.toInt64 r))) ∨ (∃ v : String × St, R1 = Sum.inl v ∧ k = hcd [IOB] v.1 ∧ u = (v.2, fo))) sz) 2 12 (va_A (hw9 cI cL q qo (S, fo)) sz) := by
  refine va_MetW (cc := cL_coverTag) (maxL := 5) (ret := (some .int)) (hh := [(0, 10, 13, 19)]) (by decide) rfl ?_
  intro p e s m args below meth c s₁ B hml hv
  obtain ⟨rfl, hg⟩ := hv
  have C : Ctx p s m _ meth c cL_coverTag 5 RL (some .int) := Ctx.of B hml rfl
  have htb := CtxH.of B
  obtain ⟨E, hw, hsz, Z⟩ := h_start hg
  subst hsz
  have hl := lv_entry ([.ref (q 0), .int x1, .int x2, .ref qo]) (n := 5) (Nat.le_of_ble_eq_true rfl)
  rw [lg_entry_eq]
  generalize (lg_sl ([.ref (q 0), .int x1, .int x2, .ref qo]) ++ List.replicate (5 - (lg_sl ([.ref (q 0), .int x1, .int x2, .ref qo])).length) Slot.unset).toArray = ls at hl ⊢
  have hl : lv_has ls 5 [(0, .ref (q 0)), (1, .int x1), (2, .int x2), (3, .ref qo)] := hl
  have hw : gW D (hw9 cI cL q qo (S, fo)) (xw cI q S ++ [oc cL qo fo]) s s.heap [] := hw
  refine lv_aload_n C.1 C.2.1 dL_coverTag_0 rfl (lv_at hl 3 rfl) ?_
  refine lv_iconst (v := 0) C.1 C.2.1 dL_coverTag_1 (by decide) ?_
  refine lv_aload_n C.1 C.2.1 dL_coverTag_2 rfl (lv_at hl 0 rfl) ?_
  refine lv_iload_n C.1 C.2.1 dL_coverTag_3 rfl (lv_at hl 1 rfl) ?_
  refine lv_iload_n C.1 C.2.1 dL_coverTag_4 rfl (lv_at hl 2 rfl) ?_
  refine g_hcx (u0 := S) (rest := [.int 0, .ref qo]) hw (g_runHX (As := [.int x1, .int x2]) (rest := [.int 0, .ref qo]) C E.E hw Z F_X3_coverTag rfl (ctX3_coverTag l hT (cI := cI) (D := D) (q := q) S x1 x2 _ hf) km_L_110 rfl hl.1 rfl (Nat.le_of_ble_eq_true rfl) ⟨(Nat.le_of_ble_eq_true rfl), (Nat.le_of_ble_eq_true rfl)⟩ ⟨(Nat.le_of_ble_eq_true rfl), (Nat.le_of_ble_eq_true rfl)⟩ dL_coverTag_5) (fun v q9 ce H locs hp hw hce hcv hcl => ?_) (fun r u hp H locs hw => ?_)
  · obtain ⟨e9, S9⟩ := v
    have hp : R1 = Sum.inl (e9, S9) := hp
    have hcl : s.vm.findClass e9 = some ce.cls := hcl
    have hw : gW D (hw9 cI cL q qo (S, fo)) (xw cI q S9 ++ [oc cL qo fo]) s H locs := hw
    rcases hE e9 S9 hp with rfl
    · refine g_catch (cls := IOB) C E htb [] (0, 10, 13, 19) [] rfl (fun z hz => absurd hz List.not_mem_nil) (by decide) (by decide) kl_L_19 kcast_IOB hce hcv hcl ?_
      refine lv_astore (lv' := [(4, .ref q9), (0, .ref (q 0)), (1, .int x1), (2, .int x2), (3, .ref qo)]) C.1 C.2.1 dL_coverTag_13 hl (by decide) rfl (fun ls hl => ?_)
      refine lv_iconst (v := 1) C.1 C.2.1 dL_coverTag_15 (by decide) ?_
      exact h_iret (u := (S9, fo)) C hw (Nat.le_of_ble_eq_true rfl) (Nat.le_of_ble_eq_true rfl) (Or.inr ⟨(IOB, S9), hp, by show (1 : Int32) = hcd [IOB] IOB; decide +kernel, rfl⟩) dL_coverTag_16
  · have hp : R1 = Sum.inr (r, u) := hp
    refine lv_i2l (v := Int32.toInt64 r) C.1 C.2.1 dL_coverTag_8 rfl ?_
    have hw : gW D (hw9 cI cL q qo (S, fo)) (xw cI q u ++ [oc cL qo fo]) s H locs := hw
    refine g_last1 C E hw dL_coverTag_9 (fun H locs hw => ?_)
    refine lv_goto (tgt := 17) C.1 C.2.1 dL_coverTag_10 (by decide) ?_
    refine lv_iconst (v := 0) C.1 C.2.1 dL_coverTag_17 (by decide) ?_
    exact h_iret (u := (u, vp_updL fo 0 (Int32.toInt64 r))) C hw (Nat.le_of_ble_eq_true rfl) (Nat.le_of_ble_eq_true rfl) (Or.inl ⟨r, u, hp, rfl, rfl⟩) dL_coverTag_18
theorem FH_fadedAfter : FctS0 yL_fadedAfter ∧ Cond.codeWith yL_fadedAfter cL_fadedAfter 4 (some .int) [(0, 9, 12, 21)] ∈ XALL ∧ (parseMethodDescriptor yL_fadedAfter.desc).map (fun d => d.parameters.length) = some 3 := ⟨⟨kt_yL_fadedAfter, by decide +kernel, by decide +kernel⟩, kw_yL_fadedAfter, by decide +kernel⟩
set_option maxHeartbeats 4000000 in
set_option maxRecDepth 100000 in
theorem ctL_fadedAfter (l : Launch) (hT : l.stackTraces = false) {D : va_G} {cI cL : ClassId} {q : Nat → Nat} {qo : Nat} (S : St) (fo : Nat → Int64) (x1 : Int32) (sz : Nat) {R1 : ((String) ⊕ (Int32))} (hf : fX3_fadedAfter S x1 = some R1) (hE : ∀ e : String, R1 = Sum.inl e → e = IAE) : Met l yL_fadedAfter (Cond.codeWith yL_fadedAfter cL_fadedAfter 4 (some .int) [(0, 9, 12, 21)] :: XALL) ({ frames := 8, cells := 1, slots := 6, locals := 132 } : Room) (va_Pc [.ref (q 0), .int x1, .ref qo] (hPre D cI cL (hw9 cI cL q qo (S, fo)) sz)) (hQi D cI cL q qo (S, fo) (fun k u => (∃ r : Int32, R1 = Sum.inr r ∧ k = 0 ∧ u = (S, vp_updL fo 0 (Int32.toInt64 r))) ∨ (∃ e : String, R1 = Sum.inl e ∧ k = hcd [IAE] e ∧ u = (S, fo))) sz) 1 6 (va_A (hw9 cI cL q qo (S, fo)) sz) := by
  refine va_MetW (cc := cL_fadedAfter) (maxL := 4) (ret := (some .int)) (hh := [(0, 9, 12, 21)]) (by decide) rfl ?_
  intro p e s m args below meth c s₁ B hml hv
  obtain ⟨rfl, hg⟩ := hv
  have C : Ctx p s m _ meth c cL_fadedAfter 4 RL (some .int) := Ctx.of B hml rfl
  have htb := CtxH.of B
  obtain ⟨E, hw, hsz, Z⟩ := h_start hg
  subst hsz
  have hl := lv_entry ([.ref (q 0), .int x1, .ref qo]) (n := 4) (Nat.le_of_ble_eq_true rfl)
  rw [lg_entry_eq]
  generalize (lg_sl ([.ref (q 0), .int x1, .ref qo]) ++ List.replicate (4 - (lg_sl ([.ref (q 0), .int x1, .ref qo])).length) Slot.unset).toArray = ls at hl ⊢
  have hl : lv_has ls 4 [(0, .ref (q 0)), (1, .int x1), (2, .ref qo)] := hl
  have hw : gW D (hw9 cI cL q qo (S, fo)) (xw cI q S ++ [oc cL qo fo]) s s.heap [] := hw
  refine lv_aload_n C.1 C.2.1 dL_fadedAfter_0 rfl (lv_at hl 2 rfl) ?_
  refine lv_iconst (v := 0) C.1 C.2.1 dL_fadedAfter_1 (by decide) ?_
  refine lv_aload_n C.1 C.2.1 dL_fadedAfter_2 rfl (lv_at hl 0 rfl) ?_
  refine lv_iload_n C.1 C.2.1 dL_fadedAfter_3 rfl (lv_at hl 1 rfl) ?_
  refine g_hcx (u0 := S) (rest := [.int 0, .ref qo]) hw (g_runHX (As := [.int x1]) (rest := [.int 0, .ref qo]) C E.E hw Z F_X3_fadedAfter rfl (ctX3_fadedAfter l hT (cI := cI) (D := D) (q := q) S x1 _ hf) km_L_113 rfl hl.1 rfl (Nat.le_of_ble_eq_true rfl) ⟨(Nat.le_of_ble_eq_true rfl), (Nat.le_of_ble_eq_true rfl)⟩ ⟨(Nat.le_of_ble_eq_true rfl), (Nat.le_of_ble_eq_true rfl)⟩ dL_fadedAfter_4) (fun v q9 ce H locs hp hw hce hcv hcl => ?_) (fun r u hp H locs hw => ?_)
  · obtain ⟨e9, S9⟩ := v
    obtain ⟨hp, hp2⟩ := hp
    have hp : R1 = Sum.inl e9 := hp
    have hp2 : S9 = S := hp2
    subst hp2
    have hcl : s.vm.findClass e9 = some ce.cls := hcl
    have hw : gW D (hw9 cI cL q qo (S9, fo)) (xw cI q S9 ++ [oc cL qo fo]) s H locs := hw
    rcases hE e9 hp with rfl
    · refine g_catch (cls := IAE) C E htb [] (0, 9, 12, 21) [] rfl (fun z hz => absurd hz List.not_mem_nil) (by decide) (by decide) kl_L_21 kcast_IAE hce hcv hcl ?_
      refine lv_astore_n (lv' := [(3, .ref q9), (0, .ref (q 0)), (1, .int x1), (2, .ref qo)]) C.1 C.2.1 dL_fadedAfter_12 rfl hl (by decide) rfl (fun ls hl => ?_)
      refine lv_iconst (v := 1) C.1 C.2.1 dL_fadedAfter_13 (by decide) ?_
      exact h_iret (u := (S9, fo)) C hw (Nat.le_of_ble_eq_true rfl) (Nat.le_of_ble_eq_true rfl) (Or.inr ⟨IAE, hp, by show (1 : Int32) = hcd [IAE] IAE; decide +kernel, rfl⟩) dL_fadedAfter_14
  · obtain ⟨hp, hp2⟩ := hp
    have hp2 : u = S := hp2
    subst hp2
    refine lv_i2l (v := Int32.toInt64 r) C.1 C.2.1 dL_fadedAfter_7 rfl ?_
    have hw : gW D (hw9 cI cL q qo (u, fo)) (xw cI q u ++ [oc cL qo fo]) s H locs := hw
    refine g_last1 C E hw dL_fadedAfter_8 (fun H locs hw => ?_)
    refine lv_goto (tgt := 15) C.1 C.2.1 dL_fadedAfter_9 (by decide) ?_
    refine lv_iconst (v := 0) C.1 C.2.1 dL_fadedAfter_15 (by decide) ?_
    exact h_iret (u := (u, vp_updL fo 0 (Int32.toInt64 r))) C hw (Nat.le_of_ble_eq_true rfl) (Nat.le_of_ble_eq_true rfl) (Or.inl ⟨r, hp, rfl, rfl⟩) dL_fadedAfter_16
theorem FH_matchesIfUnder : FctS0 yL_matchesIfUnder ∧ Cond.codeWith yL_matchesIfUnder cL_matchesIfUnder 6 (some .int) [(0, 12, 15, 19), (0, 12, 19, 21), (0, 12, 23, 13)] ∈ XALL ∧ (parseMethodDescriptor yL_matchesIfUnder.desc).map (fun d => d.parameters.length) = some 5 := ⟨⟨kt_yL_matchesIfUnder, by decide +kernel, by decide +kernel⟩, kw_yL_matchesIfUnder, by decide +kernel⟩
set_option maxHeartbeats 4000000 in
set_option maxRecDepth 100000 in
theorem ctL_matchesIfUnder (l : Launch) (hT : l.stackTraces = false) {D : va_G} {cI cL : ClassId} {q : Nat → Nat} {qo : Nat} (S : St) (fo : Nat → Int64) (x1 : Int32) (x2 : Int32) (x3 : Int32) (sz : Nat) {R1 : ((String × St) ⊕ (Int32 × St))} (hf : fX3_matchesIfUnder S x1 x2 x3 = some R1) (hE : ∀ (e : String) (S1 : St), R1 = Sum.inl (e, S1) → e = IOB ∨ e = IAE ∨ e = ISE) : Met l yL_matchesIfUnder (Cond.codeWith yL_matchesIfUnder cL_matchesIfUnder 6 (some .int) [(0, 12, 15, 19), (0, 12, 19, 21), (0, 12, 23, 13)] :: XALL) ({ frames := 9, cells := 5, slots := 30, locals := 156 } : Room) (va_Pc [.ref (q 0), .int x1, .int x2, .int x3, .ref qo] (hPre D cI cL (hw9 cI cL q qo (S, fo)) sz)) (hQi D cI cL q qo (S, fo) (fun k u => (∃ (r : Int32) (S1 : St), R1 = Sum.inr (r, S1) ∧ k = 0 ∧ u = (S1, vp_updL fo 0 (Int32.toInt64 r))) ∨ (∃ v : String × St, R1 = Sum.inl v ∧ k = hcd [IOB, IAE, ISE] v.1 ∧ u = (v.2, fo))) sz) 5 30 (va_A (hw9 cI cL q qo (S, fo)) sz) := by
  refine va_MetW (cc := cL_matchesIfUnder) (maxL := 6) (ret := (some .int)) (hh := [(0, 12, 15, 19), (0, 12, 19, 21), (0, 12, 23, 13)]) (by decide) rfl ?_
  intro p e s m args below meth c s₁ B hml hv
  obtain ⟨rfl, hg⟩ := hv
  have C : Ctx p s m _ meth c cL_matchesIfUnder 6 RL (some .int) := Ctx.of B hml rfl
  have htb := CtxH.of B
  obtain ⟨E, hw, hsz, Z⟩ := h_start hg
  subst hsz
  have hl := lv_entry ([.ref (q 0), .int x1, .int x2, .int x3, .ref qo]) (n := 6) (Nat.le_of_ble_eq_true rfl)
  rw [lg_entry_eq]
  generalize (lg_sl ([.ref (q 0), .int x1, .int x2, .int x3, .ref qo]) ++ List.replicate (6 - (lg_sl ([.ref (q 0), .int x1, .int x2, .int x3, .ref qo])).length) Slot.unset).toArray = ls at hl ⊢
  have hl : lv_has ls 6 [(0, .ref (q 0)), (1, .int x1), (2, .int x2), (3, .int x3), (4, .ref qo)] := hl
  have hw : gW D (hw9 cI cL q qo (S, fo)) (xw cI q S ++ [oc cL qo fo]) s s.heap [] := hw
  refine lv_aload C.1 C.2.1 dL_matchesIfUnder_0 (lv_at hl 4 rfl) ?_
  refine lv_iconst (v := 0) C.1 C.2.1 dL_matchesIfUnder_2 (by decide) ?_
  refine lv_aload_n C.1 C.2.1 dL_matchesIfUnder_3 rfl (lv_at hl 0 rfl) ?_
  refine lv_iload_n C.1 C.2.1 dL_matchesIfUnder_4 rfl (lv_at hl 1 rfl) ?_
  refine lv_iload_n C.1 C.2.1 dL_matchesIfUnder_5 rfl (lv_at hl 2 rfl) ?_
  refine lv_iload_n C.1 C.2.1 dL_matchesIfUnder_6 rfl (lv_at hl 3 rfl) ?_
  refine g_hcx (u0 := S) (rest := [.int 0, .ref qo]) hw (g_runHX (As := [.int x1, .int x2, .int x3]) (rest := [.int 0, .ref qo]) C E.E hw Z F_X3_matchesIfUnder rfl (ctX3_matchesIfUnder l hT (cI := cI) (D := D) (q := q) S x1 x2 x3 _ hf) km_L_116 rfl hl.1 rfl (Nat.le_of_ble_eq_true rfl) ⟨(Nat.le_of_ble_eq_true rfl), (Nat.le_of_ble_eq_true rfl)⟩ ⟨(Nat.le_of_ble_eq_true rfl), (Nat.le_of_ble_eq_true rfl)⟩ dL_matchesIfUnder_7) (fun v q9 ce H locs hp hw hce hcv hcl => ?_) (fun r u hp H locs hw => ?_)
  · obtain ⟨e9, S9⟩ := v
    have hp : R1 = Sum.inl (e9, S9) := hp
    have hcl : s.vm.findClass e9 = some ce.cls := hcl
    have hw : gW D (hw9 cI cL q qo (S, fo)) (xw cI q S9 ++ [oc cL qo fo]) s H locs := hw
    rcases hE e9 S9 hp with rfl | rfl | rfl
    · refine g_catch (cls := IOB) C E htb [] (0, 12, 15, 19) [(0, 12, 19, 21), (0, 12, 23, 13)] rfl (fun z hz => absurd hz List.not_mem_nil) (by decide) (by decide) kl_L_19 kcast_IOB hce hcv hcl ?_
      refine lv_astore (lv' := [(5, .ref q9), (0, .ref (q 0)), (1, .int x1), (2, .int x2), (3, .int x3), (4, .ref qo)]) C.1 C.2.1 dL_matchesIfUnder_15 hl (by decide) rfl (fun ls hl => ?_)
      refine lv_iconst (v := 1) C.1 C.2.1 dL_matchesIfUnder_17 (by decide) ?_
      exact h_iret (u := (S9, fo)) C hw (Nat.le_of_ble_eq_true rfl) (Nat.le_of_ble_eq_true rfl) (Or.inr ⟨(IOB, S9), hp, by show (1 : Int32) = hcd [IOB, IAE, ISE] IOB; decide +kernel, rfl⟩) dL_matchesIfUnder_18
    · refine g_catch (cls := IAE) C E htb [(0, 12, 15, 19)] (0, 12, 19, 21) [(0, 12, 23, 13)] rfl (fun z hz => by rw [List.mem_singleton] at hz; subst hz; exact ⟨by decide, IOB, kl_L_19, E.2.2.1⟩) (by decide) (by decide) kl_L_21 kcast_IAE hce hcv hcl ?_
      refine lv_astore (lv' := [(5, .ref q9), (0, .ref (q 0)), (1, .int x1), (2, .int x2), (3, .int x3), (4, .ref qo)]) C.1 C.2.1 dL_matchesIfUnder_19 hl (by decide) rfl (fun ls hl => ?_)
      refine lv_iconst (v := 2) C.1 C.2.1 dL_matchesIfUnder_21 (by decide) ?_
      exact h_iret (u := (S9, fo)) C hw (Nat.le_of_ble_eq_true rfl) (Nat.le_of_ble_eq_true rfl) (Or.inr ⟨(IAE, S9), hp, by show (2 : Int32) = hcd [IOB, IAE, ISE] IAE; decide +kernel, rfl⟩) dL_matchesIfUnder_22
    · refine g_catch (cls := ISE) C E htb [(0, 12, 15, 19), (0, 12, 19, 21)] (0, 12, 23, 13) [] rfl (fun z hz => by rcases List.mem_cons.mp hz with rfl | hz; (exact ⟨by decide, IOB, kl_L_19, E.2.2.2.1⟩); (rw [List.mem_singleton] at hz; subst hz; exact ⟨by decide, IAE, kl_L_21, E.2.2.2.2⟩)) (by decide) (by decide) kl_L_13 kcast_ISE hce hcv hcl ?_
      refine lv_astore (lv' := [(5, .ref q9), (0, .ref (q 0)), (1, .int x1), (2, .int x2), (3, .int x3), (4, .ref qo)]) C.1 C.2.1 dL_matchesIfUnder_23 hl (by decide) rfl (fun ls hl => ?_)
      refine lv_iconst (v := 3) C.1 C.2.1 dL_matchesIfUnder_25 (by decide) ?_
      exact h_iret (u := (S9, fo)) C hw (Nat.le_of_ble_eq_true rfl) (Nat.le_of_ble_eq_true rfl) (Or.inr ⟨(ISE, S9), hp, by show (3 : Int32) = hcd [IOB, IAE, ISE] ISE; decide +kernel, rfl⟩) dL_matchesIfUnder_26
  · have hp : R1 = Sum.inr (r, u) := hp
    refine lv_i2l (v := Int32.toInt64 r) C.1 C.2.1 dL_matchesIfUnder_10 rfl ?_
    have hw : gW D (hw9 cI cL q qo (S, fo)) (xw cI q u ++ [oc cL qo fo]) s H locs := hw
    refine g_last1 C E hw dL_matchesIfUnder_11 (fun H locs hw => ?_)
    refine lv_goto (tgt := 27) C.1 C.2.1 dL_matchesIfUnder_12 (by decide) ?_
    refine lv_iconst (v := 0) C.1 C.2.1 dL_matchesIfUnder_27 (by decide) ?_
    exact h_iret (u := (u, vp_updL fo 0 (Int32.toInt64 r))) C hw (Nat.le_of_ble_eq_true rfl) (Nat.le_of_ble_eq_true rfl) (Or.inl ⟨r, u, hp, rfl, rfl⟩) dL_matchesIfUnder_28
theorem FH_bestParent : FctS0 yL_bestParent ∧ Cond.codeWith yL_bestParent cL_bestParent 5 (some .int) [(0, 10, 13, 19)] ∈ XALL ∧ (parseMethodDescriptor yL_bestParent.desc).map (fun d => d.parameters.length) = some 4 := ⟨⟨kt_yL_bestParent, by decide +kernel, by decide +kernel⟩, kw_yL_bestParent, by decide +kernel⟩
set_option maxHeartbeats 4000000 in
set_option maxRecDepth 100000 in
theorem ctL_bestParent (l : Launch) (hT : l.stackTraces = false) {D : va_G} {cI cL : ClassId} {q : Nat → Nat} {qo : Nat} (S : St) (fo : Nat → Int64) (x1 : Int32) (x2 : Int32) (sz : Nat) {R1 : ((String × St) ⊕ (Int32 × St))} (hf : fX3_bestParent S x1 x2 = some R1) (hE : ∀ (e : String) (S1 : St), R1 = Sum.inl (e, S1) → e = IOB) : Met l yL_bestParent (Cond.codeWith yL_bestParent cL_bestParent 5 (some .int) [(0, 10, 13, 19)] :: XALL) ({ frames := 8, cells := 2, slots := 12, locals := 141 } : Room) (va_Pc [.ref (q 0), .int x1, .int x2, .ref qo] (hPre D cI cL (hw9 cI cL q qo (S, fo)) sz)) (hQi D cI cL q qo (S, fo) (fun k u => (∃ (r : Int32) (S1 : St), R1 = Sum.inr (r, S1) ∧ k = 0 ∧ u = (S1, vp_updL fo 0 (Int32.toInt64 r))) ∨ (∃ v : String × St, R1 = Sum.inl v ∧ k = hcd [IOB] v.1 ∧ u = (v.2, fo))) sz) 2 12 (va_A (hw9 cI cL q qo (S, fo)) sz) := by
  refine va_MetW (cc := cL_bestParent) (maxL := 5) (ret := (some .int)) (hh := [(0, 10, 13, 19)]) (by decide) rfl ?_
  intro p e s m args below meth c s₁ B hml hv
  obtain ⟨rfl, hg⟩ := hv
  have C : Ctx p s m _ meth c cL_bestParent 5 RL (some .int) := Ctx.of B hml rfl
  have htb := CtxH.of B
  obtain ⟨E, hw, hsz, Z⟩ := h_start hg
  subst hsz
  have hl := lv_entry ([.ref (q 0), .int x1, .int x2, .ref qo]) (n := 5) (Nat.le_of_ble_eq_true rfl)
  rw [lg_entry_eq]
  generalize (lg_sl ([.ref (q 0), .int x1, .int x2, .ref qo]) ++ List.replicate (5 - (lg_sl ([.ref (q 0), .int x1, .int x2, .ref qo])).length) Slot.unset).toArray = ls at hl ⊢
  have hl : lv_has ls 5 [(0, .ref (q 0)), (1, .int x1), (2, .int x2), (3, .ref qo)] := hl
  have hw : gW D (hw9 cI cL q qo (S, fo)) (xw cI q S ++ [oc cL qo fo]) s s.heap [] := hw
  refine lv_aload_n C.1 C.2.1 dL_bestParent_0 rfl (lv_at hl 3 rfl) ?_
  refine lv_iconst (v := 0) C.1 C.2.1 dL_bestParent_1 (by decide) ?_
  refine lv_aload_n C.1 C.2.1 dL_bestParent_2 rfl (lv_at hl 0 rfl) ?_
  refine lv_iload_n C.1 C.2.1 dL_bestParent_3 rfl (lv_at hl 1 rfl) ?_
  refine lv_iload_n C.1 C.2.1 dL_bestParent_4 rfl (lv_at hl 2 rfl) ?_
  refine g_hcx (u0 := S) (rest := [.int 0, .ref qo]) hw (g_runHX (As := [.int x1, .int x2]) (rest := [.int 0, .ref qo]) C E.E hw Z F_X3_bestParent rfl (ctX3_bestParent l hT (cI := cI) (D := D) (q := q) S x1 x2 _ hf) km_L_120 rfl hl.1 rfl (Nat.le_of_ble_eq_true rfl) ⟨(Nat.le_of_ble_eq_true rfl), (Nat.le_of_ble_eq_true rfl)⟩ ⟨(Nat.le_of_ble_eq_true rfl), (Nat.le_of_ble_eq_true rfl)⟩ dL_bestParent_5) (fun v q9 ce H locs hp hw hce hcv hcl => ?_) (fun r u hp H locs hw => ?_)
  · obtain ⟨e9, S9⟩ := v
    have hp : R1 = Sum.inl (e9, S9) := hp
    have hcl : s.vm.findClass e9 = some ce.cls := hcl
    have hw : gW D (hw9 cI cL q qo (S, fo)) (xw cI q S9 ++ [oc cL qo fo]) s H locs := hw
    rcases hE e9 S9 hp with rfl
    · refine g_catch (cls := IOB) C E htb [] (0, 10, 13, 19) [] rfl (fun z hz => absurd hz List.not_mem_nil) (by decide) (by decide) kl_L_19 kcast_IOB hce hcv hcl ?_
      refine lv_astore (lv' := [(4, .ref q9), (0, .ref (q 0)), (1, .int x1), (2, .int x2), (3, .ref qo)]) C.1 C.2.1 dL_bestParent_13 hl (by decide) rfl (fun ls hl => ?_)
      refine lv_iconst (v := 1) C.1 C.2.1 dL_bestParent_15 (by decide) ?_
      exact h_iret (u := (S9, fo)) C hw (Nat.le_of_ble_eq_true rfl) (Nat.le_of_ble_eq_true rfl) (Or.inr ⟨(IOB, S9), hp, by show (1 : Int32) = hcd [IOB] IOB; decide +kernel, rfl⟩) dL_bestParent_16
  · have hp : R1 = Sum.inr (r, u) := hp
    refine lv_i2l (v := Int32.toInt64 r) C.1 C.2.1 dL_bestParent_8 rfl ?_
    have hw : gW D (hw9 cI cL q qo (S, fo)) (xw cI q u ++ [oc cL qo fo]) s H locs := hw
    refine g_last1 C E hw dL_bestParent_9 (fun H locs hw => ?_)
    refine lv_goto (tgt := 17) C.1 C.2.1 dL_bestParent_10 (by decide) ?_
    refine lv_iconst (v := 0) C.1 C.2.1 dL_bestParent_17 (by decide) ?_
    exact h_iret (u := (u, vp_updL fo 0 (Int32.toInt64 r))) C hw (Nat.le_of_ble_eq_true rfl) (Nat.le_of_ble_eq_true rfl) (Or.inl ⟨r, u, hp, rfl, rfl⟩) dL_bestParent_18
