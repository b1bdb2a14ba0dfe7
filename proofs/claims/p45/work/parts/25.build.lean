/-! the law's ledger is made; a cell of the script; what building it leaves -/
def sfs0 : List Value := [.int 0, .int 0, .int 0, .int 0, .null, .null, .null, .null, .null]
def r9 (h0 a1 a2 a3 a4 a5 : Nat) (mq : Nat → Nat) (i : Nat) : Nat := if i = 0 then h0 else if i = 1 then a1 else if i = 2 then a2 else if i = 3 then a3 else if i = 4 then a4 else if i = 5 then a5 else mq (i - 6)
theorem r9_6 {h0 a1 a2 a3 a4 a5 : Nat} {mq : Nat → Nat} (d : Nat) : (if 6 + d = 0 then h0 else r9 h0 a1 a2 a3 a4 a5 mq (6 + d)) = mq d := by
  unfold r9
  rw [if_neg (by omega), if_neg (by omega), if_neg (by omega), if_neg (by omega), if_neg (by omega), if_neg (by omega), if_neg (by omega), Nat.add_sub_cancel_left]
def wi_X4 (k : Nat → ClassId) (h0 : Nat) (u : Nat → Nat) : va_W := SW k (fun i => if i = 0 then h0 else u i) (fun _ => none) (fun _ => 0) 0 (fun _ _ => 0)
abbrev gPreU (D : va_G) (k : Nat → ClassId) (ws : va_W) (b L : Nat) (xs : Nat → Int32) (sz : Nat) (U : State) : Prop := gPreL D k ws sz U ∧ va_X b L xs U U.heap ∧ b < sz ∧ ¬ va_A ws sz b
theorem gPreU_blind {D : va_G} {k : Nat → ClassId} {ws : va_W} {b L : Nat} {xs : Nat → Int32} {sz : Nat} {av : List Value} : FrameBlind (va_Pc av (gPreU D k ws b L xs sz)) := by
  intro a U g mk h
  obtain ⟨h0, h1, h2, h3, h4⟩ := h
  have hb := gPreL_blind (D := D) (k := k) (ws := ws) (sz := sz) (av := av) a U g mk ⟨h0, h1⟩
  exact ⟨h0, hb.2, va_X.moved (u := U) (U := U.calling g mk a) (Vm.Alike.refl U.vm) h2, h3, h4⟩
theorem X_blind {b L : Nat} {xs : Nat → Int32} {av : List Value} : FrameBlind (va_Pc av (fun U => va_X b L xs U U.heap)) := by
  intro a U g mk h
  exact ⟨h.1, va_X.moved (u := U) (U := U.calling g mk a) (Vm.Alike.refl U.vm) h.2⟩
abbrev gQU (D : va_G) (k : Nat → ClassId) (qx : Nat → Nat) (S1 T1 : St) (ws0 : va_W) (sz : Nat) : Array Value → State → Outcome → State → Prop :=
  va_Qr (fun (u : (Nat → Nat) × GG) => gok u.2.1 u.2.2.1 u.2.2.2 (T1 36 0)) (fun u a t => a = u.1 0 ∧ va_P D vwCl (LW k qx u.1 u.2.1 u.2.2.1 u.2.2.2 S1 T1 []) t.heap ∧ va_D (va_A ws0 sz) (LW k qx u.1 u.2.1 u.2.2.1 u.2.2.2 S1 T1 [])) (va_A ws0 sz)
section BUILD
variable {p : Program} {l : Launch} {e : Env} {R : Room} {s : State} {m : MethodId} {args : Array Value} {below : List Frame} {meth : Method} {c : Code} {H : Heap} {locs : List Loc} {cells slots : Nat} {Q : State → Prop}
variable {cc bytes : ByteArray} {nL maxL : Nat} {own : String} {ret rt : Option FieldType} {D : va_G} {k : Nat → ClassId} {qx r : Nat → Nat} {pc : Nat} {ls : Array Slot} {rest st0 : List Value} {ws0 : va_W} {S T : St} {ex : va_W}
variable {As : List Value} {rm : Room} {y : MethodName} {n index : Nat} {Qc : Array Value → State → Outcome → State → Prop} {free : Addr → Prop} {host : String} {b L : Nat} {xs : Nat → Int32}
theorem wi_pick {h0 a1 a2 a3 a4 a5 : Nat} {mq : Nat → Nat} (hw : gW D ws0 (((([(h0, .inr (4, [.int 0, .int 0, .int 0, .int 0, .ref a1, .ref a2, .ref a3, .ref a4, .ref a5])), (a1, .inl (k 0, 16, .inl (fun _ => 0)))] ++ mat k a2 mq 24 16 (fun _ _ => 0)) ++ [(a3, .inl (k 0, 24, .inl (fun _ => 0)))]) ++ [(a4, .inl (k 0, 24, .inl (fun _ => 0)))]) ++ [(a5, .inl (k 3, 20, refs (fun _ => none)))]) s H locs) : gW D ws0 (wi_X4 k h0 (r9 h0 a1 a2 a3 a4 a5 mq)) s H locs := by
  refine gW_pick hw (fun i => if i < 3 then i else if i < 6 then i + 24 else i - 3) (fun i x hi => ?_) (fun i j x y hi hj he => ?_)
  · have hlt : i < 30 := by
      have := (List.getElem?_eq_some_iff.mp hi).1
      unfold wi_X4 at this
      rw [SW_len] at this
      omega
    unfold wi_X4 at hi
    rw [SW_at (by omega)] at hi
    have hi := Option.some.inj hi
    rw [← hi]
    match i, hlt with
    | 0, _ => rfl
    | 1, _ => rfl
    | 2, _ =>
      have e2 : (fun i => if i < 24 then some (mq i) else none) = (fun d => if d < 24 then some (if 6 + d = 0 then h0 else r9 h0 a1 a2 a3 a4 a5 mq (6 + d)) else none) := by
        funext d
        by_cases hd : d < 24
        · rw [if_pos hd, if_pos hd, r9_6]
        · rw [if_neg hd, if_neg hd]
      exact congrArg (fun f => some (a2, (Sum.inl (k 2, 24, refs f) : va_E))) e2
    | 3, _ => rfl
    | 4, _ => rfl
    | 5, _ => rfl
    | i + 6, hlt =>
      show ((((([(h0, Sum.inr (4, _)), (a1, _)] ++ mat k a2 mq 24 16 (fun _ _ => 0)) ++ _) ++ _) ++ _) : va_W)[if i + 6 < 3 then i + 6 else if i + 6 < 6 then i + 6 + 24 else i + 6 - 3]? = _
      rw [if_neg (by omega), if_neg (by omega), swE_6, if_pos (by omega), show i + 6 - 3 = i + 1 + 2 by omega]
      rw [List.append_assoc, List.append_assoc, List.append_assoc]
      show (mat k a2 mq 24 16 (fun _ _ => 0) ++ _)[i + 1]? = _
      rw [List.getElem?_append_left (by rw [mat_len]; omega), mat_s (by omega)]
      show some (mq i, _) = some ((if 6 + i = 0 then h0 else r9 h0 a1 a2 a3 a4 a5 mq (6 + i)), _)
      rw [r9_6]
  · have hb : ∀ (i : Nat) (x : Nat × va_E), (wi_X4 k h0 (r9 h0 a1 a2 a3 a4 a5 mq))[i]? = some x → i < 30 := fun i x hi => by
      have := (List.getElem?_eq_some_iff.mp hi).1
      unfold wi_X4 at this
      rw [SW_len] at this
      omega
    have h1 := hb i x hi
    have h2 := hb j y hj
    have he : (if i < 3 then i else if i < 6 then i + 24 else i - 3) = if j < 3 then j else if j < 6 then j + 24 else j - 3 := he
    repeat' split at he
    all_goals omega
theorem gPreL_sub (E : gEL D k s) {ws wc : va_W} (hw : gW D ws0 ws s H locs) (isC : List Nat) (hC : isC.map (fun i => ws[i]?) = wc.map some) (hn : va_nd isC = true) {U : State} (hU : U.heap = H) (hW : s.WarmedH U.vm) : gPreL D k wc H.size U := by
  refine ⟨by rw [hU], ?_, (hw.2.1.sub isC hn hC).weaken (fun _ _ _ _ => trivial), gEL.warm hW E⟩
  rw [hU]
  refine hw.1.sub isC ?_
  have h1 : (isC.map (fun i => ws[i]?)).filterMap id = (wc.map some).filterMap id := by rw [hC]
  rw [List.filterMap_map, List.filterMap_map] at h1
  simpa using h1
theorem g_runINL (C : Ctx p s m args meth c cc nL own ret) (E : gEL D k s) {ws wc : va_W} (hw : gW D ws0 ws s H locs) (isC : List Nat) (hC : isC.map (fun i => ws[i]?) = wc.map some) (hnd : va_nd isC = true) (F : Fct y bytes maxL none 0) (hyi : y.name = "<init>") (hin : Cond.instanceMethod y ∈ XALL) (hM : Met l y (Cond.code y bytes maxL none :: XALL) rm (va_Pc [.ref b] (gPreL D k wc H.size)) Qc rm.cells rm.slots free) (hk : Cond.methodLinkNest own index y host ∈ NW)
    (hsize : ls.size = nL) (hr8 : (rest.map fun v => v.category).sum ≤ 8) (hR : rm.frames + 1 ≤ R.frames ∧ 8 + (maxL + 11) + rm.locals ≤ R.locals) (hf : cells + rm.cells ≤ R.cells ∧ slots + rm.slots ≤ R.slots) (hdg : decode cc pc = .ok (.invokespecial index, 3)) :
    va_Run p l e R s m args below meth c H locs cells slots rm.cells rm.slots (F0 m pc ls (.ref b :: rest)) rest (Qc [Value.ref b].toArray) free :=
  va_runIN (As := []) C.fix hM ⟨fct_N C E.E F hk hR, hyi, C.2.2.2.2.1 _ hin⟩ ⟨gPreL_blind, fun U hU hW => ⟨rfl, gPreL_sub E hw isC hC hnd hU hW⟩⟩ rfl rfl hsize rfl (lv_room hr8) hdg hf
/-- a cell of the script is asked for -/
theorem l_cell (C : Ctx p s m args meth c cc nL own ret) (hw : gS D ws0 k qx r S T ex s H locs) (hX : va_X b L xs s s.heap) (hbl : b < s.heap.size) (hbA : ¬ va_A ws0 s.heap.size b) (F : FctS y bytes maxL rt n) {r1 : Int32} (hM : Met l y (Cond.code y bytes maxL rt :: XALL) rm (va_Pc As (fun U => va_X b L xs U U.heap)) (zQi r1) rm.cells rm.slots (fun _ => False)) (hk : Cond.methodLink own index y ∈ XALL)
    (hn : As.length = n) (hsize : ls.size = nL) (hst : st0 = As.reverse ++ rest) (hr8 : (rest.map fun v => v.category).sum ≤ 8) (hR : rm.frames + 1 ≤ R.frames ∧ 8 + (maxL + 11) + rm.locals ≤ R.locals) (hf : cells + rm.cells ≤ R.cells ∧ slots + rm.slots ≤ R.slots) (hdg : decode cc pc = .ok (.invokestatic index, 3))
    (kk : ∀ (H : Heap) (locs : List Loc), gS D ws0 k qx r S T ex s H locs → W p l e R s m args below meth c H locs (cells + rm.cells) (slots + rm.slots) Q (F0 m (pc + 3) ls (.int r1 :: rest))) : W p l e R s m args below meth c H locs cells slots Q (F0 m pc ls st0) := by
  obtain ⟨tf, tq, nt, hg, hw⟩ := hw
  have hXH : va_X b L xs s H := hX.kept (hw.2.2.2.1 b hbl hbA)
  have hr : va_Run p l e R s m args below meth c H locs cells slots rm.cells rm.slots (F0 m pc ls st0) rest (zQi r1 As.toArray) (fun _ => False) :=
    va_runS C.fix hM ⟨fct_B C F.1 hk hR, C.2.2.2.2.1 _ F.2⟩ ⟨X_blind, fun U hU hW => ⟨rfl, by show va_X b L xs U U.heap; rw [hU]; exact va_X.moved hW.alike hXH⟩⟩ rfl hn hsize hst (lv_room hr8) hdg hf
  exact g_ci0e hw hr (fun H locs hw => kk H locs ⟨tf, tq, nt, hg, hw⟩)
theorem l_uret (C : Ctx p s m args meth c cc nL own (some (.object "DreamLedgerLaw$Sim"))) {S1 T1 : St} (hw : gS D ws0 k qx r S1 T1 [] s H locs) {mc ms : Nat} (hc : cells ≤ mc) (hs : slots ≤ ms) (hdg : decode cc pc = .ok (.areturn, 1)) :
    W p l e R s m args below meth c H locs cells slots (MQ below (gQU D k qx S1 T1 ws0 s.heap.size) args s mc ms (va_A ws0 s.heap.size)) (F0 m pc ls [.ref (r 0)]) := by
  obtain ⟨tf, tq, nt, hg, hw⟩ := hw
  exact W.widen hc hs (W.aret C.1 C.2.1 C.2.2.2.2.2.1 (Or.inl ⟨_, rfl⟩) (Or.inr ⟨_, rfl⟩) (fun t ht hW => ⟨⟨(r, tf, tq, nt), r 0, rfl, hg, rfl, by rw [ht]; exact hw.1, hw.2.1⟩, hw.F ht⟩) hw.2.2.2.2 hdg C.2.2.2.2.2.2)
end BUILD
theorem F_L_cell : FctS yL_cell cL_cell 2 (some .int) 2 := ⟨⟨kc_yL_cell, kz_L, by decide +kernel, by decide +kernel, by decide +kernel⟩, kt_yL_cell⟩
def fL_cell (L : Nat) (xs : Nat → Int32) (x1 : Int32) : Option Int32 := if nI L ≤ x1 then some (790386105 * (x1 + 3)) else ldA xs L x1
set_option maxHeartbeats 4000000 in
theorem ctL_cell (l : Launch) {b L : Nat} {xs : Nat → Int32} (x1 : Int32) {r1 : Int32} (hf : fL_cell L xs x1 = some r1) : Met l yL_cell (Cond.code yL_cell cL_cell 2 (some .int) :: XALL) ({ frames := 0, cells := 0, slots := 0, locals := 0 } : Room) (va_Pc [.ref b, .int x1] (fun U => va_X b L xs U U.heap)) (zQi r1) 0 0 (fun _ => False) := by
  unfold fL_cell at hf
  refine Met.ofW (cc := cL_cell) (maxL := 2) (ret := (some .int)) (by decide) rfl ?_
  intro p e s m args below meth c s₁ B hml hv
  obtain ⟨rfl, hX⟩ := hv
  have C : Ctx p s m _ meth c cL_cell 2 RL (some .int) := Ctx.of B hml rfl
  have hbl : b < s.heap.size := by
    obtain ⟨scr, h1, -⟩ := hX
    exact (Array.getElem?_eq_some_iff.mp h1).1
  have hw : zS s s.heap [] := va_S.rf
  have hl := lv_entry ([.ref b, .int x1]) (n := 2) (Nat.le_of_ble_eq_true rfl)
  rw [lg_entry_eq]
  generalize (lg_sl ([.ref b, .int x1]) ++ List.replicate (2 - (lg_sl ([.ref b, .int x1])).length) Slot.unset).toArray = ls at hl ⊢
  have hl : lv_has ls 2 [(0, .ref b), (1, .int x1)] := hl
  refine lv_iload_n C.1 C.2.1 dL_cell_0 rfl (lv_at hl 1 rfl) ?_
  refine lv_aload_n C.1 C.2.1 dL_cell_1 rfl (lv_at hl 0 rfl) ?_
  refine va_slen C.1 C.2.1 hX hbl (fun h => h) hw dL_cell_2 ?_
  refine lv_icmp_ge (tgt := 12) C.1 C.2.1 dL_cell_3 (by decide) (fun hc => ?_) (fun hc => ?_)
  · have hf := ift hc hf
    refine lv_ldc C.1 C.2.1 C.2.2.2.1 (C.2.2.2.2.1 _ kk_L_8) dL_cell_12 ?_
    refine lv_iload_n C.1 C.2.1 dL_cell_14 rfl (lv_at hl 1 rfl) ?_
    refine lv_iconst (v := 3) C.1 C.2.1 dL_cell_15 (by decide) ?_
    refine lv_iadd C.1 C.2.1 dL_cell_16 ?_
    refine lv_imul C.1 C.2.1 dL_cell_17 ?_
    exact z_iret C hw (Nat.le_of_ble_eq_true rfl) (Nat.le_of_ble_eq_true rfl) (Option.some.inj hf) dL_cell_18
  · have hf := iff_ hc hf
    obtain ⟨h1, h2⟩ := ldA_some hf
    refine lv_aload_n C.1 C.2.1 dL_cell_6 rfl (lv_at hl 0 rfl) ?_
    refine lv_iload_n C.1 C.2.1 dL_cell_7 rfl (lv_at hl 1 rfl) ?_
    refine va_sld C.1 C.2.1 hX hbl (fun h => h) hw h1 dL_cell_8 ?_
    refine lv_goto (tgt := 18) C.1 C.2.1 dL_cell_9 (by decide) ?_
    exact z_iret C hw (Nat.le_of_ble_eq_true rfl) (Nat.le_of_ble_eq_true rfl) h2 dL_cell_18
theorem Fi_X4 : Fct yX4_init cX4_init 1 none 0 := ⟨kc_yX4_init, kz_X4, by decide +kernel, by decide +kernel, by decide +kernel⟩
set_option maxHeartbeats 4000000 in
set_option maxRecDepth 100000 in
theorem cti_X4 (l : Launch) {D : va_G} {k : Nat → ClassId} (h0 sz : Nat) : Met l yX4_init (Cond.code yX4_init cX4_init 1 none :: XALL) ({ frames := 1, cells := 29, slots := 492, locals := 20 } : Room) (va_Pc [.ref h0] (gPreL D k [(h0, .inr (4, sfs0))] sz)) (gQn D (wi_X4 k h0) [(h0, .inr (4, sfs0))] sz) 29 492 (va_A [(h0, .inr (4, sfs0))] sz) := by
  refine Met.ofW (cc := cX4_init) (maxL := 1) (ret := none) (by decide) rfl ?_
  intro p e s m args below meth c s₁ B hml hv
  obtain ⟨rfl, hg⟩ := hv
  have C : Ctx p s m _ meth c cX4_init 1 RX4 none := Ctx.of B hml rfl
  have hmi : meth.name = "<init>" := (name_of_methodNamed B.named B.method).1
  obtain ⟨E, hw, hsz⟩ := gL_start hg
  subst hsz
  have hl := lv_entry ([.ref h0]) (n := 1) (Nat.le_of_ble_eq_true rfl)
  rw [lg_entry_eq]
  generalize (lg_sl ([.ref h0]) ++ List.replicate (1 - (lg_sl ([.ref h0])).length) Slot.unset).toArray = ls at hl ⊢
  have hl : lv_has ls 1 [(0, .ref h0)] := hl
  refine lv_aload_n C.1 C.2.1 dX4_init_0 rfl (lv_at hl 0 rfl) ?_
  refine W.objInit C.1 C.2.1 C.2.2.2.1 (C.2.2.2.2.1 _ km_X4_1) (C.2.2.2.2.1 _ ki_objectInit) (C.2.2.2.2.1 _ kc_objectInit) rfl (by rw [C.2.2.1]; exact hl.1) rfl dX4_init_1 (Nat.le_of_ble_eq_true rfl) (Nat.le_of_ble_eq_true rfl) ?_
  refine W.eq (g2 := F0 m 4 ls []) rfl ?_
  refine lv_aload_n C.1 C.2.1 dX4_init_4 rfl (lv_at hl 0 rfl) ?_
  refine lv_bipush (v := 16) C.1 C.2.1 dX4_init_5 (by decide) ?_
  refine g_newa C E.E hw 16 (by decide) (by decide) (by decide) (Nat.le_of_ble_eq_true rfl) (Nat.le_of_ble_eq_true rfl) dX4_init_7 (fun a1 H locs hw => ?_)
  refine g_putF (ty := .array .int) (fs := sfs0) C E.E hmi hw inW4 tyX4 tyX4_ok nmX4 0 rfl rfl 4 (by decide) kf_X4_7 rfl rfl (by decide +kernel) rfl rfl (Nat.le_of_ble_eq_true rfl) (ws' := [(h0, .inr (4, [.int 0, .int 0, .int 0, .int 0, .ref a1, .null, .null, .null, .null])), (a1, .inl (k 0, 16, .inl (fun _ => 0)))]) rfl dX4_init_9 (fun H locs hw => ?_)
  refine lv_aload_n C.1 C.2.1 dX4_init_12 rfl (lv_at hl 0 rfl) ?_
  refine lv_bipush (v := 24) C.1 C.2.1 dX4_init_13 (by decide) ?_
  refine lv_bipush (v := 16) C.1 C.2.1 dX4_init_15 (by decide) ?_
  refine g_newM C E hw kl_X4_13 24 16 (by decide) (by decide) (by decide) (by decide) (by decide) (by decide) (Nat.le_of_ble_eq_true rfl) (Nat.le_of_ble_eq_true rfl) dX4_init_17 (fun a2 mq H hw => ?_)
  refine g_putF (ty := .array (.array .boolean)) (fs := [.int 0, .int 0, .int 0, .int 0, .ref a1, .null, .null, .null, .null]) C E.E hmi hw inW4 tyX4 tyX4_ok nmX4 0 rfl rfl 5 (by decide) kf_X4_15 rfl rfl (by decide +kernel) rfl rfl (Nat.le_of_ble_eq_true rfl) (ws' := [(h0, .inr (4, [.int 0, .int 0, .int 0, .int 0, .ref a1, .ref a2, .null, .null, .null])), (a1, .inl (k 0, 16, .inl (fun _ => 0)))] ++ mat k a2 mq 24 16 (fun _ _ => 0)) rfl dX4_init_21 (fun H locs hw => ?_)
  refine lv_aload_n C.1 C.2.1 dX4_init_24 rfl (lv_at hl 0 rfl) ?_
  refine lv_bipush (v := 24) C.1 C.2.1 dX4_init_25 (by decide) ?_
  refine g_newa C E.E hw 24 (by decide) (by decide) (by decide) (Nat.le_of_ble_eq_true rfl) (Nat.le_of_ble_eq_true rfl) dX4_init_27 (fun a3 H locs hw => ?_)
  refine g_putF (ty := .array .int) (fs := [.int 0, .int 0, .int 0, .int 0, .ref a1, .ref a2, .null, .null, .null]) C E.E hmi hw inW4 tyX4 tyX4_ok nmX4 0 rfl rfl 6 (by decide) kf_X4_18 rfl rfl (by decide +kernel) rfl rfl (Nat.le_of_ble_eq_true rfl) (ws' := ([(h0, .inr (4, [.int 0, .int 0, .int 0, .int 0, .ref a1, .ref a2, .ref a3, .null, .null])), (a1, .inl (k 0, 16, .inl (fun _ => 0)))] ++ mat k a2 mq 24 16 (fun _ _ => 0)) ++ [(a3, .inl (k 0, 24, .inl (fun _ => 0)))]) rfl dX4_init_29 (fun H locs hw => ?_)
  refine lv_aload_n C.1 C.2.1 dX4_init_32 rfl (lv_at hl 0 rfl) ?_
  refine lv_bipush (v := 24) C.1 C.2.1 dX4_init_33 (by decide) ?_
  refine g_newa C E.E hw 24 (by decide) (by decide) (by decide) (Nat.le_of_ble_eq_true rfl) (Nat.le_of_ble_eq_true rfl) dX4_init_35 (fun a4 H locs hw => ?_)
  refine g_putF (ty := .array .int) (fs := [.int 0, .int 0, .int 0, .int 0, .ref a1, .ref a2, .ref a3, .null, .null]) C E.E hmi hw inW4 tyX4 tyX4_ok nmX4 0 rfl rfl 7 (by decide) kf_X4_21 rfl rfl (by decide +kernel) rfl rfl (Nat.le_of_ble_eq_true rfl) (ws' := (([(h0, .inr (4, [.int 0, .int 0, .int 0, .int 0, .ref a1, .ref a2, .ref a3, .ref a4, .null])), (a1, .inl (k 0, 16, .inl (fun _ => 0)))] ++ mat k a2 mq 24 16 (fun _ _ => 0)) ++ [(a3, .inl (k 0, 24, .inl (fun _ => 0)))]) ++ [(a4, .inl (k 0, 24, .inl (fun _ => 0)))]) rfl dX4_init_37 (fun H locs hw => ?_)
  refine lv_aload_n C.1 C.2.1 dX4_init_40 rfl (lv_at hl 0 rfl) ?_
  refine lv_bipush (v := 20) C.1 C.2.1 dX4_init_41 (by decide) ?_
  refine va_anewA C E hw kl_X4_24 20 (by decide) (by decide) (by decide) (Nat.le_of_ble_eq_true rfl) (Nat.le_of_ble_eq_true rfl) dX4_init_43 (fun a5 H hw => ?_)
  refine g_putF (ty := .array (.array .int)) (fs := [.int 0, .int 0, .int 0, .int 0, .ref a1, .ref a2, .ref a3, .ref a4, .null]) C E.E hmi hw inW4 tyX4 tyX4_ok nmX4 0 rfl rfl 8 (by decide) kf_X4_25 rfl rfl (by decide +kernel) rfl rfl (Nat.le_of_ble_eq_true rfl) (ws' := ((([(h0, .inr (4, [.int 0, .int 0, .int 0, .int 0, .ref a1, .ref a2, .ref a3, .ref a4, .ref a5])), (a1, .inl (k 0, 16, .inl (fun _ => 0)))] ++ mat k a2 mq 24 16 (fun _ _ => 0)) ++ [(a3, .inl (k 0, 24, .inl (fun _ => 0)))]) ++ [(a4, .inl (k 0, 24, .inl (fun _ => 0)))]) ++ [(a5, .inl (k 3, 20, refs (fun _ => none)))]) rfl dX4_init_46 (fun H locs hw => ?_)
  exact g_nret (w1 := wi_X4 k h0) C (r9 h0 a1 a2 a3 a4 a5 mq) (wi_pick hw) (Nat.le_of_ble_eq_true rfl) (Nat.le_of_ble_eq_true rfl) dX4_init_49
