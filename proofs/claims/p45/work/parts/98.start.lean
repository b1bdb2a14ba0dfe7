/-! THE LAW, from its entry -/
theorem arr_cls {s : State} {args : Array Value} {ty : FieldType} (hty : ∀ C, ty ≠ .object C) (h : (Cond.arrayClass ty).before args s = true) : ∃ cA : ClassId, ArrOfT s cA ty ∧ va_RA s cA ty := by
  obtain ⟨c, k, comp, h1, h2, h3⟩ := Cond.arrayClass_spec h
  refine ⟨c, fun n z => ⟨(fun k h => (by cases h)), k, h2, comp, h3⟩, ?_⟩
  cases ty <;> first | exact h1 | exact absurd rfl (hty _)
theorem arr_arr {s : State} {args : Array Value} {t : FieldType} (h : (Cond.arrayOver (.array t)).before args s = true) : ∃ cA : ClassId, ArrOfT s cA (.array t) ∧ va_RA s cA (.array t) := by
  obtain ⟨comp, c, k, -, -, h3, h4, h5⟩ := arrayOverA_spec h
  exact ⟨c, fun n z => ⟨(fun k h => (by cases h)), k, h3, comp, h4⟩, h5⟩
section UBUILD
variable {p : Program} {l : Launch} {e : Env} {R : Room} {s : State} {m : MethodId} {args : Array Value} {below : List Frame} {meth : Method} {c : Code} {H : Heap} {locs : List Loc} {cells slots : Nat} {Q : State → Prop}
variable {cc bytes : ByteArray} {nL maxL : Nat} {own : String} {ret0 rt : Option FieldType} {D : va_G} {k : Nat → ClassId} {qx : Nat → Nat} {pc : Nat} {ls : Array Slot} {rest st0 : List Value} {ws0 : va_W} {S S1 T1 : St}
variable {As : List Value} {rm : Room} {y : MethodName} {n index : Nat} {b L : Nat} {xs : Nat → Int32}
theorem l_ubuild (C : Ctx p s m args meth c cc nL own ret0) (E : gEL D k s) (hw : gW D ws0 (xw (k 0) qx S) s H locs) (hX : va_X b L xs s s.heap) (hbl : b < s.heap.size) (hbA : ¬ va_A ws0 s.heap.size b) (F : FctS y bytes maxL rt n) (hM : ∀ sz, Met l y (Cond.code y bytes maxL rt :: XALL) rm (va_Pc As (gPreU D k (xw (k 0) qx S) b L xs sz)) (gQU D k qx S1 T1 (xw (k 0) qx S) sz) rm.cells rm.slots (va_A (xw (k 0) qx S) sz)) (hk : Cond.methodLink own index y ∈ XALL)
    (hn : As.length = n) (hsize : ls.size = nL) (hst : st0 = As.reverse ++ rest) (hr8 : (rest.map fun v => v.category).sum ≤ 8) (hR : rm.frames + 1 ≤ R.frames ∧ 8 + (maxL + 11) + rm.locals ≤ R.locals) (hf : cells + rm.cells ≤ R.cells ∧ slots + rm.slots ≤ R.slots) (hdg : decode cc pc = .ok (.invokestatic index, 3))
    (kk : ∀ (r : Nat → Nat) (H : Heap) (locs : List Loc), gS D ws0 k qx r S1 T1 [] s H locs → W p l e R s m args below meth c H locs (cells + rm.cells) (slots + rm.slots) Q (F0 m (pc + 3) ls (.ref (r 0) :: rest))) : W p l e R s m args below meth c H locs cells slots Q (F0 m pc ls st0) := by
  have hXH : va_X b L xs s H := hX.kept (hw.2.2.2.1 b hbl hbA)
  have hA := hw.A
  have hr : va_Run p l e R s m args below meth c H locs cells slots rm.cells rm.slots (F0 m pc ls st0) rest (gQU D k qx S1 T1 (xw (k 0) qx S) H.size As.toArray) (va_A (xw (k 0) qx S) H.size) :=
    va_runS C.fix (hM H.size) ⟨fct_B C F.1 hk hR, C.2.2.2.2.1 _ F.2⟩ ⟨gPreU_blind, fun U hU hW => ⟨rfl, gPreL_of E hw hU hW, by rw [hU]; exact va_X.moved hW.alike hXH, Nat.lt_of_lt_of_le hbl hw.2.2.1, fun q => hbA (hA b q)⟩⟩ rfl hn hsize hst (lv_room hr8) hdg hf
  refine va_callr hr hw.2.2 (fun q _ h => hA q h) hA (fun u a t H1 locs1 ht _ hg hB _ _ hS => ?_)
  obtain ⟨r, tf, tq, nt⟩ := u
  obtain ⟨ha, hP, hD⟩ := hB
  subst ha
  rw [ht] at hP
  exact kk r H1 locs1 ⟨tf, tq, nt, hg, hP, hD.weaken (fun _ q _ h => hA q.1 h), hS⟩
end UBUILD
set_option maxHeartbeats 4000000 in
set_option maxRecDepth 100000 in
theorem whole_start {p : Program} {e : Env} {s : State} {m : MethodId} {below : List Frame} {meth : Method} {c : Code} (l : Launch) (hflags : l.flags = flags0) {b L : Nat} {xs : Nat → Int32} (hL : L ≤ 260) (C0 : lw_At p s m meth c b L xs) : W p l e room_1 s m #[Value.ref b] below meth c s.heap [] 0 0 (lw_Z below #[Value.ref b] s) (entryFrame m ([Value.ref b] : List Value).toArray 17) := by
  obtain ⟨hx, hb, hr, hml, hown, hts, hX, hbl, hlocks, hgv⟩ := id C0
  have C : Ctx p s m #[Value.ref b] meth c cL_law 17 RL ret := ⟨hx, hb, hml, hown, fun w h => hts w (XALL_tbl h), hr, hlocks⟩
  have hA := C.2.2.2.2.1
  obtain ⟨c0, i0, k0⟩ := u_known (C := RX0) (T := TX0) (N := 2) hA inW0 (hA _ kq_X0)
  obtain ⟨c1, i1, k1⟩ := u_known (C := RX1) (T := TX1) (N := 3) hA inW1 (hA _ kq_X1)
  obtain ⟨c2, i2, k2⟩ := u_known (C := RX2) (T := TX2) (N := 5) hA inW2 (hA _ kq_X2)
  obtain ⟨c3, i3, k3⟩ := u_known (C := RX3) (T := TX3) (N := 9) hA inW3 (hA _ kq_X3)
  obtain ⟨c4, i4, k4⟩ := u_known (C := RX4) (T := TX4) (N := 9) hA inW4 (hA _ kq_X4)
  obtain ⟨D, hKc⟩ : ∃ D : va_G, ∀ (k : Nat) (q : vw_C), vwCl[k]? = some q → u_Kn s q.1 q.2.1 q.2.2 (D.1 k) (D.2 k) := by
    refine ⟨(fun k => if k = 0 then c0 else if k = 1 then c1 else if k = 2 then c2 else if k = 3 then c3 else c4, fun k => if k = 0 then i0 else if k = 1 then i1 else if k = 2 then i2 else if k = 3 then i3 else i4), ?_⟩
    intro k q hq
    match k, hq with
    | 0, hq => cases hq; exact k0
    | 1, hq => cases hq; exact k1
    | 2, hq => cases hq; exact k2
    | 3, hq => cases hq; exact k3
    | 4, hq => cases hq; exact k4
    | k + 5, hq => simp [vwCl] at hq
  obtain ⟨cI, a1, a2⟩ := arr_cls (ty := .int) (by intro C h; cases h) (hA _ ka_int)
  obtain ⟨cZ, a3, a4⟩ := arr_cls (ty := .boolean) (by intro C h; cases h) (hA _ ka_boolean)
  obtain ⟨cB, a5, a6⟩ := arr_arr (hts _ kao_boolean)
  obtain ⟨cT, a7, a8⟩ := arr_arr (hts _ kao_int)
  obtain ⟨k, e0, e1, e2, e3⟩ : ∃ k : Nat → ClassId, k 0 = cI ∧ k 1 = cZ ∧ k 2 = cB ∧ k 3 = cT := ⟨fun i => if i = 0 then cI else if i = 1 then cZ else if i = 2 then cB else cT, rfl, rfl, rfl, rfl⟩
  subst e0
  subst e1
  subst e2
  subst e3
  have E : gEL D k s := by
    refine ⟨⟨hKc, fun j q h => ?_⟩, fun w hw => va_Nw.of (nw_on (List.mem_filter.mp hw).2) (hts w (NW_tbl hw)), va_AOA.of (hts _ kao_boolean), va_AOA.of (hts _ kao_int)⟩
    match j, h with
    | 0, h => cases h; exact ⟨a1, a2⟩
    | 1, h => cases h; exact ⟨a3, a4⟩
    | 2, h => cases h; exact ⟨a5, a6⟩
    | 3, h => cases h; exact ⟨a7, a8⟩
    | j + 4, h => simp at h
  have hw : gW D [] [] s s.heap [] := ⟨fun k q h => by simp at h, ⟨fun i j p q h => by simp at h, fun k q h => by simp at h⟩, va_S.rf⟩
  have hl := lv_entry ([.ref b]) (n := 17) (Nat.le_of_ble_eq_true rfl)
  rw [lg_entry_eq]
  generalize (lg_sl ([.ref b]) ++ List.replicate (17 - (lg_sl ([.ref b])).length) Slot.unset).toArray = ls at hl ⊢
  have hl : lv_has ls 17 [(0, .ref b)] := hl
  refine g_newo (ci := 3) (fs := [.null, .null, .null, .null, .null, .null, .null, .int 0, .int 0]) C E.E hw inW3 tyX3 tyX3_ok kl_L_26 kq_X3 kz_X3 rfl (fun j hj => by rcases (show j = 0 ∨ j = 1 ∨ j = 2 ∨ j = 3 ∨ j = 4 ∨ j = 5 ∨ j = 6 ∨ j = 7 ∨ j = 8 by omega) with rfl | rfl | rfl | rfl | rfl | rfl | rfl | rfl | rfl <;> rfl) (Nat.le_of_ble_eq_true rfl) (Nat.le_of_ble_eq_true rfl) dL_law_0 (fun q0 H locs hw => ?_)
  have hw : gW D [] [(q0, .inr (3, [.null, .null, .null, .null, .null, .null, .null, .int 0, .int 0]))] s H locs := hw
  refine lv_dup C.1 C.2.1 dL_law_3 rfl ?_
  refine g_init9 (w1 := wi_X3 (k 0) q0) (wr := []) (rest := [.ref q0]) hw (g_runI (rm := ({ frames := 2, cells := 15, slots := 251, locals := 40 } : Room)) (wc := [(q0, .inr (3, [.null, .null, .null, .null, .null, .null, .null, .int 0, .int 0]))]) C E.E hw [0] rfl (by decide) Fi_X3 rfl ki_yX3_init (cti_X3 l q0 _) km_L_113 hl.1 (Nat.le_of_ble_eq_true rfl) ⟨(Nat.le_of_ble_eq_true rfl), (Nat.le_of_ble_eq_true rfl)⟩ ⟨(Nat.le_of_ble_eq_true rfl), (Nat.le_of_ble_eq_true rfl)⟩ dL_law_4) [0] [] rfl rfl (by decide) (by decide) (fun ux H locs hw => ?_)
  obtain ⟨qx, hq⟩ : ∃ qx : Nat → Nat, qx = fun i => if i = 0 then q0 else ux i := ⟨_, rfl⟩
  have hw : gW D [] (xw (k 0) qx (fun _ _ => 0)) s H locs := by rw [hq]; exact hw
  have h0 : q0 = qx 0 := by rw [hq]; rfl
  rw [h0]
  refine W.cs (cells' := 16) (slots' := 260) rfl rfl ?_
  refine lv_astore_n (lv' := [(1, .ref (qx 0)), (0, .ref b)]) C.1 C.2.1 dL_law_7 rfl hl (by decide) rfl (fun ls hl => ?_)
  refine lv_aload_n C.1 C.2.1 dL_law_8 rfl (lv_at hl 0 rfl) ?_
  refine lv_aload_n C.1 C.2.1 dL_law_9 rfl (lv_at hl 1 rfl) ?_
  have hf := z_law L xs hL
  unfold fL_law at hf
  obtain ⟨⟨S, T⟩, hu, hf⟩ := bnd hf
  have hf := pr_r hf
  refine l_ubuild (rm := ({ frames := 6, cells := 200, slots := 4000, locals := 147 } : Room)) (As := [.ref (qx 0), .ref b]) (rest := []) (S := fun _ _ => 0) C E hw hX hbl (nA0 hbl) F_L_build (fun sz => ctL_build l (k := k) (D := D) (qx := qx) hL (fun _ _ => 0) hu sz) km_L_114 rfl hl.1 rfl (Nat.le_of_ble_eq_true rfl) ⟨(Nat.le_of_ble_eq_true rfl), (Nat.le_of_ble_eq_true rfl)⟩ ⟨(Nat.le_of_ble_eq_true rfl), (Nat.le_of_ble_eq_true rfl)⟩ dL_law_10 (fun r H locs hw => ?_)
  refine W.cs (cells' := 216) (slots' := 4260) rfl rfl ?_
  refine lv_astore_n (lv' := [(2, .ref (r 0)), (1, .ref (qx 0)), (0, .ref b)]) C.1 C.2.1 dL_law_13 rfl hl (by decide) rfl (fun ls hl => ?_)
  refine lv_aload_n C.1 C.2.1 dL_law_14 rfl (lv_at hl 0 rfl) ?_
  refine lv_ifnonnull (tgt := 20) C.1 C.2.1 dL_law_15 (by decide) ?_
  refine lv_iconst (v := 0) C.1 C.2.1 dL_law_20 (by decide) ?_
  refine lv_istore_n (lv' := [(3, .int 0), (2, .ref (r 0)), (1, .ref (qx 0)), (0, .ref b)]) C.1 C.2.1 dL_law_21 rfl hl (by decide) rfl (fun ls hl => ?_)
  exact wL_law_22 C E hX hbl hL 100 S T 0 hf 216 4260 (by omega) _ _ _ hw (lv_sub hl [3, 2, 1, 0] rfl)
