theorem sx4 (j : Nat) : nI (4 * j) + Int32.ofInt 4 = nI (4 * (j + 1)) := by
  rw [Nat.mul_succ, ← nI_add]
  rfl
section LWL
variable {p : Program} {l : Launch} {e : Env} {R : Room} {s : State} {m : MethodId} {args : Array Value} {below : List Frame} {meth : Method} {c : Code} {H : Heap} {locs : List Loc} {cells slots : Nat} {Q : State → Prop} {cc : ByteArray} {nL : Nat} {own : String} {ret : Option FieldType} {pc : Nat} {ls : Array Slot} {rest : List Value} {D : va_G} {cI cL : ClassId} {ws0 : va_W}
theorem g_newl (C : Ctx p s m args meth c cc nL own ret) (E : gEL D cI cL s) {ws : va_W} (hw : gW D ws0 ws s H locs) (hc : cells + 1 ≤ R.cells) (hs : slots + 1 ≤ R.slots) (hdg : decode cc pc = .ok (.newarray .long, 2))
    (kk : ∀ (qa : Nat) (H : Heap) (locs : List Loc), gW D ws0 (ws ++ [oc cL qa (fun _ => 0)]) s H locs → W p l e R s m args below meth c H locs (cells + 1) (slots + 1) Q (F0 m (pc + 2) ls (.ref qa :: rest))) : W p l e R s m args below meth c H locs cells slots Q (F0 m pc ls (.int 1 :: rest)) := by
  refine va_newa (atype := .long) C.1 C.2.1 (C.2.2.2.2.1 _ ka_long) (ty := .long) rfl E.1 hw.1 hw.2.1 hw.2.2 (fun _ h => Or.inr h) (N' := 1) (a0 := (1, .inr (.inl (fun _ => 0)))) (fun _ => rfl) (by decide) rfl (by decide) hc hs hdg ?_
  intro qn cA H1 hK hP hD hS
  have h1 : s.vm.findClass ("[" ++ (FieldType.long).toString) = some cA := (hK.2 2 (cA, .long) rfl).2
  have h2 : s.vm.findClass ("[" ++ (FieldType.long).toString) = some cL := (hK.2 1 (cL, .long) rfl).2
  have h3 : cA = cL := Option.some.inj (h1.symm.trans h2)
  subst h3
  exact kk qn H1 locs ⟨hP, hD, hS⟩
end LWL
theorem no_traces {l : Launch} (h : l.flags = flags0) : l.stackTraces = false := by
  unfold Launch.stackTraces
  rw [h]
  decide +kernel
theorem strs_in : ∀ t ∈ STRL, Cond.stringRef RX3 t.1 t.2 ∈ lw_tbl := by decide +kernel
theorem nI4 {j L : Nat} (hL : L ≤ 2048) (hj : 4 * j ≤ L) (h : ¬ nI L - 4 < nI (4 * j)) : 4 * j + 4 ≤ L := by
  rw [show (4 : Int32) = nI 4 from rfl, Int32.lt_iff_toInt_lt, pk_sub_toInt (by omega) (by omega), nI_toInt (by omega)] at h
  omega
set_option maxHeartbeats 4000000 in
set_option maxRecDepth 100000 in
theorem law_loop {p : Program} {l : Launch} {e : Env} {s : State} {m : MethodId} {below : List Frame} {meth : Method} {c : Code} {b : Nat} (C : Ctx p s m #[Value.ref b] meth c cL_law 9 RL ret) {D : va_G} {cI cL : ClassId} {qx qm : Nat → Nat} {qo L : Nat} {xs : Nat → Int32} (E : gEL D cI cL s) (Z : gZ (va_A [] s.heap.size) s s.heap) (hT : l.stackTraces = false) (hX : va_X b L xs s s.heap) (hbl : b < s.heap.size) (hL : L ≤ 2048) : ∀ (n j : Nat), 4 * j ≤ L → L + 1 ≤ 4 * j + n → ∀ (X M : St) (o : Nat → Int64), Rel X M → ∀ (H : Heap) (locs : List Loc) (ls : Array Slot), gW D [] (LW cI cL qx qm qo (X, o) M) s H locs → lv_has ls 9 [(0, .ref b), (1, .ref (qx 0)), (2, .ref (qm 0)), (3, .ref qo), (4, .int (nI (4 * j)))] → W p l e room_1 s m #[Value.ref b] below meth c H locs (30 + j * 8) (500 + j * 48) (lw_Z below #[Value.ref b] s) (F0 m 23 ls []) := by
  intro n
  induction n with
  | zero =>
    intro j h1 h2
    omega
  | succ n ih =>
    intro j hjL hn X M o h H locs ls hw hl
    refine lv_iload C.1 C.2.1 dL_law_23 (lv_at hl 4 rfl) ?_
    refine lv_aload_n C.1 C.2.1 dL_law_25 rfl (lv_at hl 0 rfl) ?_
    refine g_slen C hX hbl hw dL_law_26 ?_
    refine lv_iconst (v := 4) C.1 C.2.1 dL_law_27 (by decide) ?_
    refine lv_isub C.1 C.2.1 dL_law_28 ?_
    refine lv_icmp_gt (tgt := 2497) C.1 C.2.1 dL_law_29 (by decide) (fun hc => ?_) (fun hc => ?_)
    · refine lv_iconst (v := 1) C.1 C.2.1 dL_law_2497 (by decide) ?_
      refine va_forget (fun q hq => ?_) ?_
      · rcases hw.2.2.2.2 q hq with ⟨k, e9, h9⟩ | h9
        · simp at h9
        · exact h9
      refine W.widen (k := 644831) (n := 7161610) (by omega) (by omega) ?_
      exact lw_ret (d0 := s.drawn) (Drawn.sameBut.refl s.drawn lw_cs) C.1 C.2.1 C.2.2.2.2.2.1 C.2.2.2.2.2.2 dL_law_2498
    · have hj : 4 * j + 4 ≤ L := nI4 hL hjL hc
      have hnx : ∀ (X M : St) (o : Nat → Int64), Rel X M → ∀ (H : Heap) (locs : List Loc) (ls : Array Slot), gW D [] (LW cI cL qx qm qo (X, o) M) s H locs → lv_has ls 9 [(0, .ref b), (1, .ref (qx 0)), (2, .ref (qm 0)), (3, .ref qo), (4, .int (nI (4 * j)))] → W p l e room_1 s m #[Value.ref b] below meth c H locs (30 + (j + 1) * 8) (500 + (j + 1) * 48) (lw_Z below #[Value.ref b] s) (F0 m 2491 ls []) := by
        intro X M o h H locs ls hw hl
        refine lv_iinc (v := nI (4 * (j + 1))) (lv' := [(4, .int (nI (4 * (j + 1)))), (0, .ref b), (1, .ref (qx 0)), (2, .ref (qm 0)), (3, .ref qo)]) C.1 C.2.1 dL_law_2491 hl (k := 4) rfl (sx4 j) (by decide) rfl (fun ls hl => ?_)
        refine lv_goto (tgt := 23) C.1 C.2.1 dL_law_2494 (by decide) ?_
        exact ih (j + 1) (by omega) (by omega) X M o h _ _ _ hw (lv_sub hl [1, 2, 3, 4, 0] rfl)
      refine lv_aload_n C.1 C.2.1 dL_law_32 rfl (lv_at hl 0 rfl) ?_
      refine lv_iload C.1 C.2.1 dL_law_33 (lv_at hl 4 rfl) ?_
      refine g_sld C hX hbl hL hw (4 * j) rfl (by omega) dL_law_35 ?_
      refine lv_bipush (v := 63) C.1 C.2.1 dL_law_36 (by decide) ?_
      refine lv_iand C.1 C.2.1 dL_law_38 ?_
      obtain ⟨t, ht, et⟩ := pk_andE (xs (4 * j)) (m := 63) 6 (by decide)
      rw [et]
      clear et
      match t, ht with
      | 0, _ =>
        refine lv_tableIn (tgt := 220) (off := 181) C.1 C.2.1 dL_law_39 (by decide) (by decide) rfl (by decide) ?_
        exact law_0 C E Z hT hX hbl hL j hj h hnx H locs ls hw hl
      | 1, _ =>
        refine lv_tableIn (tgt := 264) (off := 225) C.1 C.2.1 dL_law_39 (by decide) (by decide) rfl (by decide) ?_
        exact law_1 C E Z hT hX hbl hL j hj h hnx H locs ls hw hl
      | 2, _ =>
        refine lv_tableIn (tgt := 332) (off := 293) C.1 C.2.1 dL_law_39 (by decide) (by decide) rfl (by decide) ?_
        exact law_2 C E Z hT hX hbl hL j hj h hnx H locs ls hw hl
      | 3, _ =>
        refine lv_tableIn (tgt := 388) (off := 349) C.1 C.2.1 dL_law_39 (by decide) (by decide) rfl (by decide) ?_
        exact law_3 C E Z hT hX hbl hL j hj h hnx H locs ls hw hl
      | 4, _ =>
        refine lv_tableIn (tgt := 456) (off := 417) C.1 C.2.1 dL_law_39 (by decide) (by decide) rfl (by decide) ?_
        exact law_4 C E Z hT hX hbl hL j hj h hnx H locs ls hw hl
      | 5, _ =>
        refine lv_tableIn (tgt := 524) (off := 485) C.1 C.2.1 dL_law_39 (by decide) (by decide) rfl (by decide) ?_
        exact law_5 C E Z hT hX hbl hL j hj h hnx H locs ls hw hl
      | 6, _ =>
        refine lv_tableIn (tgt := 592) (off := 553) C.1 C.2.1 dL_law_39 (by decide) (by decide) rfl (by decide) ?_
        exact law_6 C E Z hT hX hbl hL j hj h hnx H locs ls hw hl
      | 7, _ =>
        refine lv_tableIn (tgt := 660) (off := 621) C.1 C.2.1 dL_law_39 (by decide) (by decide) rfl (by decide) ?_
        exact law_7 C E Z hT hX hbl hL j hj h hnx H locs ls hw hl
      | 8, _ =>
        refine lv_tableIn (tgt := 716) (off := 677) C.1 C.2.1 dL_law_39 (by decide) (by decide) rfl (by decide) ?_
        exact law_8 C E Z hT hX hbl hL j hj h hnx H locs ls hw hl
      | 9, _ =>
        refine lv_tableIn (tgt := 772) (off := 733) C.1 C.2.1 dL_law_39 (by decide) (by decide) rfl (by decide) ?_
        exact law_9 C E Z hT hX hbl hL j hj h hnx H locs ls hw hl
      | 10, _ =>
        refine lv_tableIn (tgt := 840) (off := 801) C.1 C.2.1 dL_law_39 (by decide) (by decide) rfl (by decide) ?_
        exact law_10 C E Z hT hX hbl hL j hj h hnx H locs ls hw hl
      | 11, _ =>
        refine lv_tableIn (tgt := 908) (off := 869) C.1 C.2.1 dL_law_39 (by decide) (by decide) rfl (by decide) ?_
        exact law_11 C E Z hT hX hbl hL j hj h hnx H locs ls hw hl
      | 12, _ =>
        refine lv_tableIn (tgt := 964) (off := 925) C.1 C.2.1 dL_law_39 (by decide) (by decide) rfl (by decide) ?_
        exact law_12 C E Z hT hX hbl hL j hj h hnx H locs ls hw hl
      | 13, _ =>
        refine lv_tableIn (tgt := 977) (off := 938) C.1 C.2.1 dL_law_39 (by decide) (by decide) rfl (by decide) ?_
        exact law_13 C E Z hT hX hbl hL j hj h hnx H locs ls hw hl
      | 14, _ =>
        refine lv_tableIn (tgt := 1040) (off := 1001) C.1 C.2.1 dL_law_39 (by decide) (by decide) rfl (by decide) ?_
        exact law_14 C E Z hT hX hbl hL j hj h hnx H locs ls hw hl
      | 15, _ =>
        refine lv_tableIn (tgt := 1096) (off := 1057) C.1 C.2.1 dL_law_39 (by decide) (by decide) rfl (by decide) ?_
        exact law_15 C E Z hT hX hbl hL j hj h hnx H locs ls hw hl
      | 16, _ =>
        refine lv_tableIn (tgt := 1152) (off := 1113) C.1 C.2.1 dL_law_39 (by decide) (by decide) rfl (by decide) ?_
        exact law_16 C E Z hT hX hbl hL j hj h hnx H locs ls hw hl
      | 17, _ =>
        refine lv_tableIn (tgt := 1208) (off := 1169) C.1 C.2.1 dL_law_39 (by decide) (by decide) rfl (by decide) ?_
        exact law_17 C E Z hT hX hbl hL j hj h hnx H locs ls hw hl
      | 18, _ =>
        refine lv_tableIn (tgt := 1283) (off := 1244) C.1 C.2.1 dL_law_39 (by decide) (by decide) rfl (by decide) ?_
        exact law_18 C E Z hT hX hbl hL j hj h hnx H locs ls hw hl
      | 19, _ =>
        refine lv_tableIn (tgt := 1351) (off := 1312) C.1 C.2.1 dL_law_39 (by decide) (by decide) rfl (by decide) ?_
        exact law_19 C E Z hT hX hbl hL j hj h hnx H locs ls hw hl
      | 20, _ =>
        refine lv_tableIn (tgt := 1407) (off := 1368) C.1 C.2.1 dL_law_39 (by decide) (by decide) rfl (by decide) ?_
        exact law_20 C E Z hT hX hbl hL j hj h hnx H locs ls hw hl
      | 21, _ =>
        refine lv_tableIn (tgt := 1482) (off := 1443) C.1 C.2.1 dL_law_39 (by decide) (by decide) rfl (by decide) ?_
        exact law_21 C E Z hT hX hbl hL j hj h hnx H locs ls hw hl
      | 22, _ =>
        refine lv_tableIn (tgt := 1557) (off := 1518) C.1 C.2.1 dL_law_39 (by decide) (by decide) rfl (by decide) ?_
        exact law_22 C E Z hT hX hbl hL j hj h hnx H locs ls hw hl
      | 23, _ =>
        refine lv_tableIn (tgt := 1613) (off := 1574) C.1 C.2.1 dL_law_39 (by decide) (by decide) rfl (by decide) ?_
        exact law_23 C E Z hT hX hbl hL j hj h hnx H locs ls hw hl
      | 24, _ =>
        refine lv_tableIn (tgt := 1669) (off := 1630) C.1 C.2.1 dL_law_39 (by decide) (by decide) rfl (by decide) ?_
        exact law_24 C E Z hT hX hbl hL j hj h hnx H locs ls hw hl
      | 25, _ =>
        refine lv_tableIn (tgt := 1725) (off := 1686) C.1 C.2.1 dL_law_39 (by decide) (by decide) rfl (by decide) ?_
        exact law_25 C E Z hT hX hbl hL j hj h hnx H locs ls hw hl
      | 26, _ =>
        refine lv_tableIn (tgt := 1800) (off := 1761) C.1 C.2.1 dL_law_39 (by decide) (by decide) rfl (by decide) ?_
        exact law_26 C E Z hT hX hbl hL j hj h hnx H locs ls hw hl
      | 27, _ =>
        refine lv_tableIn (tgt := 1856) (off := 1817) C.1 C.2.1 dL_law_39 (by decide) (by decide) rfl (by decide) ?_
        exact law_27 C E Z hT hX hbl hL j hj h hnx H locs ls hw hl
      | 28, _ =>
        refine lv_tableIn (tgt := 1912) (off := 1873) C.1 C.2.1 dL_law_39 (by decide) (by decide) rfl (by decide) ?_
        exact law_28 C E Z hT hX hbl hL j hj h hnx H locs ls hw hl
      | 29, _ =>
        refine lv_tableIn (tgt := 1968) (off := 1929) C.1 C.2.1 dL_law_39 (by decide) (by decide) rfl (by decide) ?_
        exact law_29 C E Z hT hX hbl hL j hj h hnx H locs ls hw hl
      | 30, _ =>
        refine lv_tableIn (tgt := 2043) (off := 2004) C.1 C.2.1 dL_law_39 (by decide) (by decide) rfl (by decide) ?_
        exact law_30 C E Z hT hX hbl hL j hj h hnx H locs ls hw hl
      | 31, _ =>
        refine lv_tableIn (tgt := 2099) (off := 2060) C.1 C.2.1 dL_law_39 (by decide) (by decide) rfl (by decide) ?_
        exact law_31 C E Z hT hX hbl hL j hj h hnx H locs ls hw hl
      | 32, _ =>
        refine lv_tableIn (tgt := 2167) (off := 2128) C.1 C.2.1 dL_law_39 (by decide) (by decide) rfl (by decide) ?_
        exact law_32 C E Z hT hX hbl hL j hj h hnx H locs ls hw hl
      | 33, _ =>
        refine lv_tableIn (tgt := 2180) (off := 2141) C.1 C.2.1 dL_law_39 (by decide) (by decide) rfl (by decide) ?_
        exact law_33 C E Z hT hX hbl hL j hj h hnx H locs ls hw hl
      | 34, _ =>
        refine lv_tableIn (tgt := 2193) (off := 2154) C.1 C.2.1 dL_law_39 (by decide) (by decide) rfl (by decide) ?_
        exact law_34 C E Z hT hX hbl hL j hj h hnx H locs ls hw hl
      | 35, _ =>
        refine lv_tableIn (tgt := 2206) (off := 2167) C.1 C.2.1 dL_law_39 (by decide) (by decide) rfl (by decide) ?_
        exact law_35 C E Z hT hX hbl hL j hj h hnx H locs ls hw hl
      | 36, _ =>
        refine lv_tableIn (tgt := 2219) (off := 2180) C.1 C.2.1 dL_law_39 (by decide) (by decide) rfl (by decide) ?_
        exact law_36 C E Z hT hX hbl hL j hj h hnx H locs ls hw hl
      | 37, _ =>
        refine lv_tableIn (tgt := 2232) (off := 2193) C.1 C.2.1 dL_law_39 (by decide) (by decide) rfl (by decide) ?_
        exact law_37 C E Z hT hX hbl hL j hj h hnx H locs ls hw hl
      | 38, _ =>
        refine lv_tableIn (tgt := 2288) (off := 2249) C.1 C.2.1 dL_law_39 (by decide) (by decide) rfl (by decide) ?_
        exact law_38 C E Z hT hX hbl hL j hj h hnx H locs ls hw hl
      | 39, _ =>
        refine lv_tableIn (tgt := 2368) (off := 2329) C.1 C.2.1 dL_law_39 (by decide) (by decide) rfl (by decide) ?_
        exact law_39 C E Z hT hX hbl hL j hj h hnx H locs ls hw hl
      | 40, _ =>
        refine lv_tableIn (tgt := 2436) (off := 2397) C.1 C.2.1 dL_law_39 (by decide) (by decide) rfl (by decide) ?_
        exact law_40 C E Z hT hX hbl hL j hj h hnx H locs ls hw hl
      | 41, _ =>
        refine lv_tableIn (tgt := 2477) (off := 2438) C.1 C.2.1 dL_law_39 (by decide) (by decide) rfl (by decide) ?_
        exact law_41 C E Z hT hX hbl hL j hj h hnx H locs ls hw hl
      | t + 42, ht =>
        refine lv_tableOut (tgt := 2491) C.1 C.2.1 dL_law_39 (Or.inr (by rw [nI_toInt (by omega)]; omega)) (by decide) ?_
        refine W.widen (k := 30 + (j + 1) * 8) (n := 500 + (j + 1) * 48) (by omega) (by omega) ?_
        exact hnx X M o h H locs ls hw hl
set_option maxHeartbeats 4000000 in
set_option maxRecDepth 100000 in
/-- THE LAW, from its entry -/
theorem whole_start {p : Program} {e : Env} {s : State} {m : MethodId} {below : List Frame} {meth : Method} {c : Code} (l : Launch) (hflags : l.flags = flags0) {b L : Nat} {xs : Nat → Int32} (hL : L ≤ 2048) (C0 : lw_At p s m meth c b L xs) : W p l e room_1 s m #[Value.ref b] below meth c s.heap [] 0 0 (lw_Z below #[Value.ref b] s) (entryFrame m ([Value.ref b] : List Value).toArray 9) := by
  obtain ⟨hx, hb, hr, hml, hown, hts, hX, hbl, hlocks, hgv⟩ := id C0
  have hT := no_traces hflags
  have C : Ctx p s m #[Value.ref b] meth c cL_law 9 RL ret := ⟨hx, hb, hml, hown, fun w h => hts w (XALL_tbl h), hr, hlocks⟩
  have hA := C.2.2.2.2.1
  obtain ⟨c0, i0, k0⟩ := u_known (C := RX0) (T := TX0) (N := 2) hA inW0 (hA _ kq_X0)
  obtain ⟨c1, i1, k1⟩ := u_known (C := RX1) (T := TX1) (N := 3) hA inW1 (hA _ kq_X1)
  obtain ⟨c2, i2, k2⟩ := u_known (C := RX2) (T := TX2) (N := 5) hA inW2 (hA _ kq_X2)
  obtain ⟨c3, i3, k3⟩ := u_known (C := RX3) (T := TX3) (N := 9) hA inW3 (hA _ kq_X3)
  obtain ⟨c4, i4, k4⟩ := u_known (C := RX4) (T := TX4) (N := 16) hA inW4 (hA _ kq_X4)
  obtain ⟨D, hKc⟩ : ∃ D : va_G, ∀ (k : Nat) (q : vw_C), vwCl[k]? = some q → u_Kn s q.1 q.2.1 q.2.2 (D.1 k) (D.2 k) := by
    refine ⟨(fun k => if k = 0 then c0 else if k = 1 then c1 else if k = 2 then c2 else if k = 3 then c3 else c4, fun k => if k = 0 then i0 else if k = 1 then i1 else if k = 2 then i2 else if k = 3 then i3 else i4), ?_⟩
    intro k q hq
    match k, hq with
    | 0, hq => cases hq; exact k0
    | 1, hq => cases hq; exact k1
    | 2, hq => cases hq; exact k2
    | 3, hq => cases hq; exact k3
    | 4, hq => cases hq; exact k4
    | k + 5, hq => simp [vwCl] at hq
  obtain ⟨cI, a1, a2⟩ := arr_cls (ty := .int) (by intro C h; cases h) (hA _ ka_int)
  obtain ⟨cL, a3, a4⟩ := arr_cls (ty := .long) (by intro C h; cases h) (hA _ ka_long)
  have hg := flat_of_before _ hgv
  have E : gEL D cI cL s := by
    refine ⟨⟨hKc, fun k q h => ?_⟩, ⟨fun w hw => va_Nw.of (nw_on (List.mem_filter.mp hw).2) (hts w (NW_tbl hw)), fun t ht => ?_⟩, va_Nc.of (hg (Cond.not (.castable IAE IOB)) (by decide +kernel)), va_Nc.of (hg (Cond.not (.castable ISE IOB)) (by decide +kernel)), va_Nc.of (hg (Cond.not (.castable ISE IAE)) (by decide +kernel))⟩
    · match k, h with
      | 0, h => cases h; exact ⟨a1, a2⟩
      | 1, h => cases h; exact ⟨a3, a4⟩
      | k + 2, h => simp at h
    · have h1 := hts _ (strs_in t ht)
      obtain ⟨k, cf, i, a, -, -, -, -, -, h2⟩ := Cond.stringRef_spec k3.2.1 h1
      exact ⟨a, vk_R.of h1 h2⟩
  have Z : gZ (va_A [] s.heap.size) s s.heap := by
    have hn : ∀ a : Nat, a < s.heap.size → ¬ va_A [] s.heap.size a := by
      intro a ha h
      rcases h with ⟨k, e9, h⟩ | h
      · simp at h
      · exact absurd h (Nat.not_le.mpr ha)
    exact ⟨vx_Zqof (hts (Cond.laysStatic Bundle.tN "UNASSIGNED_STACK" Bundle.steD) (by decide +kernel)) (hts (Cond.initialized Bundle.tN) (by decide +kernel)) (hg (Cond.isRef (.static Bundle.tN "UNASSIGNED_STACK" Bundle.steD)) (by decide +kernel)) hn, vx_Zqof (hts (Cond.laysStatic Bundle.tN "SUPPRESSED_SENTINEL" Bundle.listD) (by decide +kernel)) (hts (Cond.initialized Bundle.tN) (by decide +kernel)) (hg (Cond.isRef (.static Bundle.tN "SUPPRESSED_SENTINEL" Bundle.listD)) (by decide +kernel)) hn⟩
  have hw : gW D [] [] s s.heap [] := ⟨fun k q h => by simp at h, ⟨fun i j p q h => by simp at h, fun k q h => by simp at h⟩, va_S.rf⟩
  have hl := lv_entry ([.ref b]) (n := 9) (Nat.le_of_ble_eq_true rfl)
  rw [lg_entry_eq]
  generalize (lg_sl ([.ref b]) ++ List.replicate (9 - (lg_sl ([.ref b])).length) Slot.unset).toArray = ls at hl ⊢
  have hl : lv_has ls 9 [(0, .ref b)] := hl
  refine g_newo (ci := 3) (fs := [.null, .null, .null, .null, .null, .null, .null, .int 0, .int 0]) C E.E hw inW3 tyX3 tyX3_ok kl_L_8 kq_X3 kz_X3 rfl (fun j hj => by rcases (show j = 0 ∨ j = 1 ∨ j = 2 ∨ j = 3 ∨ j = 4 ∨ j = 5 ∨ j = 6 ∨ j = 7 ∨ j = 8 by omega) with rfl | rfl | rfl | rfl | rfl | rfl | rfl | rfl | rfl <;> rfl) (Nat.le_of_ble_eq_true rfl) (Nat.le_of_ble_eq_true rfl) dL_law_0 (fun q0 H locs hw => ?_)
  have hw : gW D [] [(q0, .inr (3, [.null, .null, .null, .null, .null, .null, .null, .int 0, .int 0]))] s H locs := hw
  refine lv_dup C.1 C.2.1 dL_law_3 rfl ?_
  refine g_init9 (w1 := wi_X3 cI q0) (wr := []) (rest := [.ref q0]) hw (g_runI (rm := ({ frames := 2, cells := 15, slots := 251, locals := 40 } : Room)) (wc := [(q0, .inr (3, [.null, .null, .null, .null, .null, .null, .null, .int 0, .int 0]))]) C E.E hw [0] rfl (by decide) Fi_X3 rfl ki_yX3_init (cti_X3 l q0 _) km_L_123 hl.1 (Nat.le_of_ble_eq_true rfl) ⟨(Nat.le_of_ble_eq_true rfl), (Nat.le_of_ble_eq_true rfl)⟩ ⟨(Nat.le_of_ble_eq_true rfl), (Nat.le_of_ble_eq_true rfl)⟩ dL_law_4) [0] [] rfl rfl (by decide) (by decide) (fun ux H locs hw => ?_)
  have hw : gW D [] (wi_X3 cI q0 ux) s H locs := hw
  refine lv_astore_n (lv' := [(1, .ref q0), (0, .ref b)]) C.1 C.2.1 dL_law_7 rfl hl (by decide) rfl (fun ls hl => ?_)
  refine g_newo (ci := 4) (fs := [.int 0, .int 0, .int 0, .int 0, .int 0, .null, .null, .null, .null, .null, .null, .null, .null, .null, .null, .int 0]) C E.E hw inW4 tyX4 tyX4_ok kl_L_124 kq_X4 kz_X4 rfl (fun j hj => by rcases (show j = 0 ∨ j = 1 ∨ j = 2 ∨ j = 3 ∨ j = 4 ∨ j = 5 ∨ j = 6 ∨ j = 7 ∨ j = 8 ∨ j = 9 ∨ j = 10 ∨ j = 11 ∨ j = 12 ∨ j = 13 ∨ j = 14 ∨ j = 15 by omega) with rfl | rfl | rfl | rfl | rfl | rfl | rfl | rfl | rfl | rfl | rfl | rfl | rfl | rfl | rfl | rfl <;> rfl) (Nat.le_of_ble_eq_true rfl) (Nat.le_of_ble_eq_true rfl) dL_law_8 (fun q1 H locs hw => ?_)
  refine lv_dup C.1 C.2.1 dL_law_11 rfl ?_
  refine g_init9 (w1 := wi_X4 cI q1) (wr := wi_X3 cI q0 ux) (rest := [.ref q1]) hw (g_runI (rm := ({ frames := 1, cells := 10, slots := 208, locals := 20 } : Room)) (wc := [(q1, .inr (4, [.int 0, .int 0, .int 0, .int 0, .int 0, .null, .null, .null, .null, .null, .null, .null, .null, .null, .null, .int 0]))]) C E.E hw [16] rfl (by decide) Fi_X4 rfl ki_yX4_init (cti_X4 l q1 _) km_L_126 hl.1 (Nat.le_of_ble_eq_true rfl) ⟨(Nat.le_of_ble_eq_true rfl), (Nat.le_of_ble_eq_true rfl)⟩ ⟨(Nat.le_of_ble_eq_true rfl), (Nat.le_of_ble_eq_true rfl)⟩ dL_law_12) [16] [0, 1, 2, 3, 4, 5, 6, 7, 8, 9, 10, 11, 12, 13, 14, 15] rfl rfl (by decide) (by decide) (fun um H locs hw => ?_)
  refine lv_astore_n (lv' := [(2, .ref q1), (1, .ref q0), (0, .ref b)]) C.1 C.2.1 dL_law_15 rfl hl (by decide) rfl (fun ls hl => ?_)
  refine lv_iconst (v := 1) C.1 C.2.1 dL_law_16 (by decide) ?_
  refine g_newl C E hw (Nat.le_of_ble_eq_true rfl) (Nat.le_of_ble_eq_true rfl) dL_law_17 (fun qo H locs hw => ?_)
  refine lv_astore_n (lv' := [(3, .ref qo), (2, .ref q1), (1, .ref q0), (0, .ref b)]) C.1 C.2.1 dL_law_19 rfl hl (by decide) rfl (fun ls hl => ?_)
  refine lv_iconst (v := 0) C.1 C.2.1 dL_law_20 (by decide) ?_
  refine lv_istore (lv' := [(4, .int 0), (3, .ref qo), (2, .ref q1), (1, .ref q0), (0, .ref b)]) C.1 C.2.1 dL_law_21 hl (by decide) rfl (fun ls hl => ?_)
  have hw : gW D [] (LW cI cL (fun i => if i = 0 then q0 else ux i) (fun i => if i = 0 then q1 else um i) qo (fun _ _ => 0, fun _ => 0) (fun _ _ => 0)) s H locs :=
    ⟨hw.1.sub [0, 1, 2, 3, 4, 5, 6, 7, 8, 9, 10, 11, 12, 13, 14, 15, 27, 16, 17, 18, 19, 20, 21, 22, 23, 24, 25, 26] rfl, hw.2.1.sub [0, 1, 2, 3, 4, 5, 6, 7, 8, 9, 10, 11, 12, 13, 14, 15, 27, 16, 17, 18, 19, 20, 21, 22, 23, 24, 25, 26] (by decide) rfl, hw.2.2⟩
  refine W.widen (k := 30 + 0 * 8) (n := 500 + 0 * 48) (by decide) (by decide) ?_
  exact law_loop C E Z hT hX hbl hL (L + 1) 0 (Nat.zero_le _) (by omega) _ _ _ rel_0 _ _ _ hw (lv_sub hl [4, 3, 2, 1, 0] rfl)
