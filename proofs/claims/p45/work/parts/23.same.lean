theorem F_X4_isSame : FctV yX4_isSame cX4_isSame 7 (some .boolean) 1 := ⟨⟨kc_yX4_isSame, kz_X4, by decide +kernel, by decide +kernel, by decide +kernel⟩, ki_yX4_isSame, ks_yX4_isSame⟩
def fX4_isSame_537 (S : St) (T : St) (B : St) (t0 : UInt64) (t1 : UInt64) : Option Unit :=
  Option.bind (some (Op.cmpValue (FP.dcmp t0 t1) .l)) fun v_25 =>
  if v_25 = 0 then
    some ()
  else
    none
set_option maxHeartbeats 4000000 in
set_option maxRecDepth 100000 in
theorem wX4_isSame_537 {p : Program} {l : Launch} {e : Env} {s : State} {m : MethodId} {args : Array Value} {below : List Frame} {meth : Method} {c : Code} {D : va_G} {k : Nat → ClassId} {qx r : Nat → Nat} {ws0 : va_W} (C : Ctx p s m args meth c cX4_isSame 7 RX4 (some .boolean)) (E : gEL D k s) {r1 : Unit} (S : St) (T : St) (B : St) : ∀ (t0 : UInt64) (t1 : UInt64), fX4_isSame_537 S T B t0 t1 = some r1 → ∀ (qa : Nat) (mq : Nat → Nat) (H : Heap) (locs : List Loc) (ls : Array Slot), gS D ws0 k qx r S T (mat k qa mq (T 36 0).toNatClampNeg (T 35 0).toNatClampNeg B) s H locs → lv_has ls 7 [] → W p l e ({ frames := 4, cells := 21, slots := 520, locals := 87 } : Room) s m args below meth c H locs 21 520 (MQ below (va_Qi (fun (x : Int32) (_ : Unit) => x = 1) (fun _ _ => True) (va_A ws0 s.heap.size)) args s 21 520 (va_A ws0 s.heap.size)) (F0 m 537 ls [.double t1, .double t0]) := by
  intro t0 t1 hf qa mq H locs ls hw hl
  unfold fX4_isSame_537 at hf
  obtain ⟨v_25, hv_25, hf⟩ := bnd hf
  refine lv_dcmp C.1 C.2.1 dX4_isSame_537 ?_
  refine topi_b hv_25 ?_
  refine lv_if_ne (tgt := 545) C.1 C.2.1 dX4_isSame_538 (by decide) (fun hc => ?_) (fun hc => ?_)
  · have hf := iff_ hc hf
    refine lv_iconst (v := 0) C.1 C.2.1 dX4_isSame_545 (by decide) ?_
    cases hf
  · have hf := ift hc hf
    refine lv_iconst (v := 1) C.1 C.2.1 dX4_isSame_541 (by decide) ?_
    refine lv_goto (tgt := 546) C.1 C.2.1 dX4_isSame_542 (by decide) ?_
    exact l_bret C hw (Nat.le_of_ble_eq_true rfl) (Nat.le_of_ble_eq_true rfl) (Or.inr rfl) rfl dX4_isSame_546
def fX4_isSame_466 (S : St) (T : St) (B : St) (x2 : Int32) (x4 : Int32) (k425 : Int32 → Option Unit) (k440 : Int32 → Int32 → Option Unit) (x6 : Int32) (t0 : Int32) (t1 : Int32) : Option Unit :=
  Option.bind (some ((t0 + t1))) fun x5_46 =>
  Option.bind (fX3_matches S x4 x6) fun v_47 =>
  Option.bind (ix (T 36 0).toNatClampNeg x4) fun j_48 =>
  Option.bind (ldM B (T 36 0).toNatClampNeg j_48 (T 35 0).toNatClampNeg x6) fun v_49 =>
  if v_47 = v_49 then
    Option.bind (some (x6 + 1)) fun x6_50 =>
    k440 x5_46 x6_50
  else
    none
set_option maxHeartbeats 4000000 in
set_option maxRecDepth 100000 in
theorem wX4_isSame_466 {p : Program} {l : Launch} {e : Env} {s : State} {m : MethodId} {args : Array Value} {below : List Frame} {meth : Method} {c : Code} {D : va_G} {k : Nat → ClassId} {qx r : Nat → Nat} {ws0 : va_W} (C : Ctx p s m args meth c cX4_isSame 7 RX4 (some .boolean)) (E : gEL D k s) {r1 : Unit} (S : St) (T : St) (B : St) (x2 : Int32) (x4 : Int32) (k425 : Int32 → Option Unit) (hk425 : ∀ (x4 : Int32), k425 x4 = some r1 → ∀ (qa : Nat) (mq : Nat → Nat) (H : Heap) (locs : List Loc) (ls : Array Slot), gS D ws0 k qx r S T (mat k qa mq (T 36 0).toNatClampNeg (T 35 0).toNatClampNeg B) s H locs → lv_has ls 7 [(0, .ref (r 0)), (1, .ref (qx 0)), (2, .int x2), (3, .ref (qa)), (4, .int x4)] → W p l e ({ frames := 4, cells := 21, slots := 520, locals := 87 } : Room) s m args below meth c H locs 21 520 (MQ below (va_Qi (fun (x : Int32) (_ : Unit) => x = 1) (fun _ _ => True) (va_A ws0 s.heap.size)) args s 21 520 (va_A ws0 s.heap.size)) (F0 m 425 ls [])) (k440 : Int32 → Int32 → Option Unit) (hk440 : ∀ (x5 : Int32) (x6 : Int32), k440 x5 x6 = some r1 → ∀ (qa : Nat) (mq : Nat → Nat) (H : Heap) (locs : List Loc) (ls : Array Slot), gS D ws0 k qx r S T (mat k qa mq (T 36 0).toNatClampNeg (T 35 0).toNatClampNeg B) s H locs → lv_has ls 7 [(0, .ref (r 0)), (1, .ref (qx 0)), (2, .int x2), (3, .ref (qa)), (4, .int x4), (5, .int x5), (6, .int x6)] → W p l e ({ frames := 4, cells := 21, slots := 520, locals := 87 } : Room) s m args below meth c H locs 21 520 (MQ below (va_Qi (fun (x : Int32) (_ : Unit) => x = 1) (fun _ _ => True) (va_A ws0 s.heap.size)) args s 21 520 (va_A ws0 s.heap.size)) (F0 m 440 ls [])) : ∀ (x6 : Int32) (t0 : Int32) (t1 : Int32), fX4_isSame_466 S T B x2 x4 k425 k440 x6 t0 t1 = some r1 → ∀ (qa : Nat) (mq : Nat → Nat) (H : Heap) (locs : List Loc) (ls : Array Slot), gS D ws0 k qx r S T (mat k qa mq (T 36 0).toNatClampNeg (T 35 0).toNatClampNeg B) s H locs → lv_has ls 7 [(0, .ref (r 0)), (1, .ref (qx 0)), (2, .int x2), (3, .ref (qa)), (4, .int x4), (6, .int x6)] → W p l e ({ frames := 4, cells := 21, slots := 520, locals := 87 } : Room) s m args below meth c H locs 21 520 (MQ below (va_Qi (fun (x : Int32) (_ : Unit) => x = 1) (fun _ _ => True) (va_A ws0 s.heap.size)) args s 21 520 (va_A ws0 s.heap.size)) (F0 m 466 ls [.int t1, .int t0]) := by
  intro x6 t0 t1 hf qa mq H locs ls hw hl
  unfold fX4_isSame_466 at hf
  refine lv_iadd C.1 C.2.1 dX4_isSame_466 ?_
  obtain ⟨x5_46, hx5_46, hf⟩ := bnd hf
  refine topi_b hx5_46 ?_
  refine lv_istore (lv' := [(5, .int x5_46), (0, .ref (r 0)), (1, .ref (qx 0)), (2, .int x2), (3, .ref (qa)), (4, .int x4), (6, .int x6)]) C.1 C.2.1 dX4_isSame_467 hl (by decide) rfl (fun ls hl => ?_)
  refine lv_aload_n C.1 C.2.1 dX4_isSame_469 rfl (lv_at hl 2 rfl) ?_
  refine lv_iload C.1 C.2.1 dX4_isSame_470 (lv_at hl 5 rfl) ?_
  refine lv_iload C.1 C.2.1 dX4_isSame_472 (lv_at hl 6 rfl) ?_
  obtain ⟨v_47, hv_47, hf⟩ := bnd hf
  refine l_xi (rm := ({ frames := 1, cells := 0, slots := 0, locals := 21 } : Room)) (As := [.int x4, .int x6]) (rest := []) C E hw F_X3_matches rfl (fun _ => ctX3_matches l (cI := k 0) (D := D) (q := qx) S x4 x6 _ hv_47) km_X4_105 rfl hl.1 rfl (Nat.le_of_ble_eq_true rfl) ⟨(Nat.le_of_ble_eq_true rfl), (Nat.le_of_ble_eq_true rfl)⟩ ⟨(Nat.le_of_ble_eq_true rfl), (Nat.le_of_ble_eq_true rfl)⟩ dX4_isSame_474 (fun H locs hw => ?_)
  refine lv_aload_n C.1 C.2.1 dX4_isSame_477 rfl (lv_at hl 4 rfl) ?_
  refine lv_iload C.1 C.2.1 dX4_isSame_478 (lv_at hl 5 rfl) ?_
  obtain ⟨j_48, hj_48, hf⟩ := bnd hf
  refine l_maa C E hw hj_48 dX4_isSame_480 ?_
  refine lv_iload C.1 C.2.1 dX4_isSame_481 (lv_at hl 6 rfl) ?_
  obtain ⟨v_49, hv_49, hf⟩ := bnd hf
  refine l_mld C E hw hv_49 dX4_isSame_483 ?_
  refine lv_icmp_eq (tgt := 489) C.1 C.2.1 dX4_isSame_484 (by decide) (fun hc => ?_) (fun hc => ?_)
  · have hf := ift hc hf
    obtain ⟨x6_50, hx6_50, hf⟩ := bnd hf
    refine lv_iinc (v := x6_50) (lv' := [(6, .int x6_50), (5, .int x5_46), (0, .ref (r 0)), (1, .ref (qx 0)), (2, .int x2), (3, .ref (qa)), (4, .int x4)]) C.1 C.2.1 dX4_isSame_489 hl (k := 6) rfl (inc1 hx6_50) (by decide) rfl (fun ls hl => ?_)
    refine lv_goto (tgt := 440) C.1 C.2.1 dX4_isSame_492 (by decide) ?_
    exact hk440 x5_46 x6_50 hf _ _ _ _ _ hw (lv_sub hl [2, 3, 4, 5, 6, 1, 0] rfl)
  · have hf := iff_ hc hf
    refine lv_iconst (v := 0) C.1 C.2.1 dX4_isSame_487 (by decide) ?_
    cases hf
def fX4_isSame_440 (S : St) (T : St) (B : St) (x2 : Int32) (x4 : Int32) (k425 : Int32 → Option Unit) : Nat → Int32 → Int32 → Option Unit
  | 0, _, _ => none
  | n + 1, x5, x6 =>
    if (T 35 0) ≤ x6 then
      Option.bind (fX3_matchesOf S x4) fun v_26 =>
      if v_26 = x5 then
        Option.bind (some (x4 + 1)) fun x4_27 =>
        k425 x4_27
      else
        none
    else
      Option.bind (ix (T 36 0).toNatClampNeg x4) fun j_28 =>
      Option.bind (ldM B (T 36 0).toNatClampNeg j_28 (T 35 0).toNatClampNeg x6) fun v_29 =>
      if v_29 = 0 then
        fX4_isSame_466 S T B x2 x4 k425 (fX4_isSame_440 S T B x2 x4 k425 n) x6 x5 0
      else
        fX4_isSame_466 S T B x2 x4 k425 (fX4_isSame_440 S T B x2 x4 k425 n) x6 x5 1
set_option maxHeartbeats 4000000 in
set_option maxRecDepth 100000 in
theorem wX4_isSame_440 {p : Program} {l : Launch} {e : Env} {s : State} {m : MethodId} {args : Array Value} {below : List Frame} {meth : Method} {c : Code} {D : va_G} {k : Nat → ClassId} {qx r : Nat → Nat} {ws0 : va_W} (C : Ctx p s m args meth c cX4_isSame 7 RX4 (some .boolean)) (E : gEL D k s) {r1 : Unit} (S : St) (T : St) (B : St) (x2 : Int32) (x4 : Int32) (k425 : Int32 → Option Unit) (hk425 : ∀ (x4 : Int32), k425 x4 = some r1 → ∀ (qa : Nat) (mq : Nat → Nat) (H : Heap) (locs : List Loc) (ls : Array Slot), gS D ws0 k qx r S T (mat k qa mq (T 36 0).toNatClampNeg (T 35 0).toNatClampNeg B) s H locs → lv_has ls 7 [(0, .ref (r 0)), (1, .ref (qx 0)), (2, .int x2), (3, .ref (qa)), (4, .int x4)] → W p l e ({ frames := 4, cells := 21, slots := 520, locals := 87 } : Room) s m args below meth c H locs 21 520 (MQ below (va_Qi (fun (x : Int32) (_ : Unit) => x = 1) (fun _ _ => True) (va_A ws0 s.heap.size)) args s 21 520 (va_A ws0 s.heap.size)) (F0 m 425 ls [])) : ∀ (n : Nat) (x5 : Int32) (x6 : Int32), fX4_isSame_440 S T B x2 x4 k425 n x5 x6 = some r1 → ∀ (qa : Nat) (mq : Nat → Nat) (H : Heap) (locs : List Loc) (ls : Array Slot), gS D ws0 k qx r S T (mat k qa mq (T 36 0).toNatClampNeg (T 35 0).toNatClampNeg B) s H locs → lv_has ls 7 [(0, .ref (r 0)), (1, .ref (qx 0)), (2, .int x2), (3, .ref (qa)), (4, .int x4), (5, .int x5), (6, .int x6)] → W p l e ({ frames := 4, cells := 21, slots := 520, locals := 87 } : Room) s m args below meth c H locs 21 520 (MQ below (va_Qi (fun (x : Int32) (_ : Unit) => x = 1) (fun _ _ => True) (va_A ws0 s.heap.size)) args s 21 520 (va_A ws0 s.heap.size)) (F0 m 440 ls []) := by
  intro n
  induction n with
  | zero => intro x5 x6 hf; rw [fX4_isSame_440] at hf; cases hf
  | succ n ih =>
    intro x5 x6 hf qa mq H locs ls hw hl
    rw [fX4_isSame_440] at hf
    refine lv_iload C.1 C.2.1 dX4_isSame_440 (lv_at hl 6 rfl) ?_
    refine lv_aload_n C.1 C.2.1 dX4_isSame_442 rfl (lv_at hl 0 rfl) ?_
    refine l_get C E hw 1 (by decide) kf_X4_40 rfl dX4_isSame_443 ?_
    refine lv_icmp_ge (tgt := 495) C.1 C.2.1 dX4_isSame_446 (by decide) (fun hc => ?_) (fun hc => ?_)
    · have hf := ift hc hf
      refine lv_aload_n C.1 C.2.1 dX4_isSame_495 rfl (lv_at hl 1 rfl) ?_
      refine lv_iload C.1 C.2.1 dX4_isSame_496 (lv_at hl 4 rfl) ?_
      obtain ⟨v_26, hv_26, hf⟩ := bnd hf
      refine l_xi (rm := ({ frames := 1, cells := 0, slots := 0, locals := 21 } : Room)) (As := [.int x4]) (rest := []) C E hw F_X3_matchesOf rfl (fun _ => ctX3_matchesOf l (cI := k 0) (D := D) (q := qx) S x4 _ hv_26) km_X4_107 rfl hl.1 rfl (Nat.le_of_ble_eq_true rfl) ⟨(Nat.le_of_ble_eq_true rfl), (Nat.le_of_ble_eq_true rfl)⟩ ⟨(Nat.le_of_ble_eq_true rfl), (Nat.le_of_ble_eq_true rfl)⟩ dX4_isSame_498 (fun H locs hw => ?_)
      refine lv_iload C.1 C.2.1 dX4_isSame_501 (lv_at hl 5 rfl) ?_
      refine lv_icmp_eq (tgt := 508) C.1 C.2.1 dX4_isSame_503 (by decide) (fun hc => ?_) (fun hc => ?_)
      · have hf := ift hc hf
        obtain ⟨x4_27, hx4_27, hf⟩ := bnd hf
        refine lv_iinc (v := x4_27) (lv' := [(4, .int x4_27), (0, .ref (r 0)), (1, .ref (qx 0)), (2, .int x2), (3, .ref (qa)), (5, .int x5), (6, .int x6)]) C.1 C.2.1 dX4_isSame_508 hl (k := 4) rfl (inc1 hx4_27) (by decide) rfl (fun ls hl => ?_)
        refine lv_goto (tgt := 425) C.1 C.2.1 dX4_isSame_511 (by decide) ?_
        exact hk425 x4_27 hf _ _ _ _ _ hw (lv_sub hl [1, 2, 3, 4, 0] rfl)
      · have hf := iff_ hc hf
        refine lv_iconst (v := 0) C.1 C.2.1 dX4_isSame_506 (by decide) ?_
        cases hf
    · have hf := iff_ hc hf
      refine lv_iload C.1 C.2.1 dX4_isSame_449 (lv_at hl 5 rfl) ?_
      refine lv_aload_n C.1 C.2.1 dX4_isSame_451 rfl (lv_at hl 3 rfl) ?_
      refine lv_iload C.1 C.2.1 dX4_isSame_452 (lv_at hl 4 rfl) ?_
      obtain ⟨j_28, hj_28, hf⟩ := bnd hf
      refine l_maa C E hw hj_28 dX4_isSame_454 ?_
      refine lv_iload C.1 C.2.1 dX4_isSame_455 (lv_at hl 6 rfl) ?_
      obtain ⟨v_29, hv_29, hf⟩ := bnd hf
      refine l_mld C E hw hv_29 dX4_isSame_457 ?_
      refine lv_if_eq (tgt := 465) C.1 C.2.1 dX4_isSame_458 (by decide) (fun hc => ?_) (fun hc => ?_)
      · have hf := ift hc hf
        refine lv_iconst (v := 0) C.1 C.2.1 dX4_isSame_465 (by decide) ?_
        exact wX4_isSame_466 C E S T B x2 x4 k425 hk425 (fX4_isSame_440 S T B x2 x4 k425 n) ih x6 x5 0 hf _ _ _ _ _ hw (lv_sub hl [0, 1, 2, 3, 4, 6] rfl)
      · have hf := iff_ hc hf
        refine lv_iconst (v := 1) C.1 C.2.1 dX4_isSame_461 (by decide) ?_
        refine lv_goto (tgt := 466) C.1 C.2.1 dX4_isSame_462 (by decide) ?_
        exact wX4_isSame_466 C E S T B x2 x4 k425 hk425 (fX4_isSame_440 S T B x2 x4 k425 n) ih x6 x5 1 hf _ _ _ _ _ hw (lv_sub hl [0, 1, 2, 3, 4, 6] rfl)
def fX4_isSame_425 (S : St) (T : St) (B : St) (x2 : Int32) : Nat → Int32 → Option Unit
  | 0, _ => none
  | n + 1, x4 =>
    if (T 36 0) ≤ x4 then
      Option.bind (fX3_meanVividness S) fun v_9 =>
      if (T 35 0) = 0 then
        fX4_isSame_537 S T B v_9 0
      else
        Option.bind (dv (FP.i2d x2) (FP.i2d (T 35 0))) fun v_10 =>
        fX4_isSame_537 S T B v_9 v_10
    else
      fX4_isSame_440 S T B x2 x4 (fX4_isSame_425 S T B x2 n) 100 0 0
set_option maxHeartbeats 4000000 in
set_option maxRecDepth 100000 in
theorem wX4_isSame_425 {p : Program} {l : Launch} {e : Env} {s : State} {m : MethodId} {args : Array Value} {below : List Frame} {meth : Method} {c : Code} {D : va_G} {k : Nat → ClassId} {qx r : Nat → Nat} {ws0 : va_W} (C : Ctx p s m args meth c cX4_isSame 7 RX4 (some .boolean)) (E : gEL D k s) {r1 : Unit} (S : St) (T : St) (B : St) (x2 : Int32) : ∀ (n : Nat) (x4 : Int32), fX4_isSame_425 S T B x2 n x4 = some r1 → ∀ (qa : Nat) (mq : Nat → Nat) (H : Heap) (locs : List Loc) (ls : Array Slot), gS D ws0 k qx r S T (mat k qa mq (T 36 0).toNatClampNeg (T 35 0).toNatClampNeg B) s H locs → lv_has ls 7 [(0, .ref (r 0)), (1, .ref (qx 0)), (2, .int x2), (3, .ref (qa)), (4, .int x4)] → W p l e ({ frames := 4, cells := 21, slots := 520, locals := 87 } : Room) s m args below meth c H locs 21 520 (MQ below (va_Qi (fun (x : Int32) (_ : Unit) => x = 1) (fun _ _ => True) (va_A ws0 s.heap.size)) args s 21 520 (va_A ws0 s.heap.size)) (F0 m 425 ls []) := by
  intro n
  induction n with
  | zero => intro x4 hf; rw [fX4_isSame_425] at hf; cases hf
  | succ n ih =>
    intro x4 hf qa mq H locs ls hw hl
    rw [fX4_isSame_425] at hf
    refine lv_iload C.1 C.2.1 dX4_isSame_425 (lv_at hl 4 rfl) ?_
    refine lv_aload_n C.1 C.2.1 dX4_isSame_427 rfl (lv_at hl 0 rfl) ?_
    refine l_get C E hw 2 (by decide) kf_X4_37 rfl dX4_isSame_428 ?_
    refine lv_icmp_ge (tgt := 514) C.1 C.2.1 dX4_isSame_431 (by decide) (fun hc => ?_) (fun hc => ?_)
    · have hf := ift hc hf
      refine lv_aload_n C.1 C.2.1 dX4_isSame_514 rfl (lv_at hl 1 rfl) ?_
      obtain ⟨v_9, hv_9, hf⟩ := bnd hf
      refine l_xd (rm := ({ frames := 0, cells := 0, slots := 0, locals := 0 } : Room)) (As := []) (rest := []) C E hw F_X3_meanVividness rfl (fun _ => ctX3_meanVividness l (cI := k 0) (D := D) (q := qx) S _ hv_9) km_X4_110 rfl hl.1 rfl (Nat.le_of_ble_eq_true rfl) ⟨(Nat.le_of_ble_eq_true rfl), (Nat.le_of_ble_eq_true rfl)⟩ ⟨(Nat.le_of_ble_eq_true rfl), (Nat.le_of_ble_eq_true rfl)⟩ dX4_isSame_515 (fun H locs hw => ?_)
      refine lv_aload_n C.1 C.2.1 dX4_isSame_518 rfl (lv_at hl 0 rfl) ?_
      refine l_get C E hw 1 (by decide) kf_X4_40 rfl dX4_isSame_519 ?_
      refine lv_if_ne (tgt := 529) C.1 C.2.1 dX4_isSame_522 (by decide) (fun hc => ?_) (fun hc => ?_)
      · have hf := iff_ hc hf
        refine lv_iload_n C.1 C.2.1 dX4_isSame_529 rfl (lv_at hl 2 rfl) ?_
        refine lv_i2d C.1 C.2.1 dX4_isSame_530 ?_
        refine lv_aload_n C.1 C.2.1 dX4_isSame_531 rfl (lv_at hl 0 rfl) ?_
        refine l_get C E hw 1 (by decide) kf_X4_40 rfl dX4_isSame_532 ?_
        refine lv_i2d C.1 C.2.1 dX4_isSame_535 ?_
        obtain ⟨v_10, hv_10, hf⟩ := bnd hf
        refine g_ddiv C hv_10 dX4_isSame_536 ?_
        exact wX4_isSame_537 C E S T B v_9 v_10 hf _ _ _ _ _ hw (lv_sub hl [] rfl)
      · have hf := ift hc hf
        refine g_dconst0 C dX4_isSame_525 ?_
        refine lv_goto (tgt := 537) C.1 C.2.1 dX4_isSame_526 (by decide) ?_
        exact wX4_isSame_537 C E S T B v_9 0 hf _ _ _ _ _ hw (lv_sub hl [] rfl)
    · have hf := iff_ hc hf
      refine lv_iconst (v := 0) C.1 C.2.1 dX4_isSame_434 (by decide) ?_
      refine lv_istore (lv' := [(5, .int 0), (0, .ref (r 0)), (1, .ref (qx 0)), (2, .int x2), (3, .ref (qa)), (4, .int x4)]) C.1 C.2.1 dX4_isSame_435 hl (by decide) rfl (fun ls hl => ?_)
      refine lv_iconst (v := 0) C.1 C.2.1 dX4_isSame_437 (by decide) ?_
      refine lv_istore (lv' := [(6, .int 0), (5, .int 0), (0, .ref (r 0)), (1, .ref (qx 0)), (2, .int x2), (3, .ref (qa)), (4, .int x4)]) C.1 C.2.1 dX4_isSame_438 hl (by decide) rfl (fun ls hl => ?_)
      exact wX4_isSame_440 C E S T B x2 x4 (fX4_isSame_425 S T B x2 n) ih 100 0 0 hf _ _ _ _ _ hw (lv_sub hl [2, 3, 4, 5, 6, 1, 0] rfl)
def fX4_isSame_315 (S : St) (T : St) (x2 : Int32) (x3 : Int32) (k275 : Int32 → Int32 → Option Unit) (k289 : Int32 → Int32 → Option Unit) (x5 : Int32) (t0 : Int32) (t1 : Int32) : Option Unit :=
  Option.bind (some ((t0 + t1))) fun x4_30 =>
  Option.bind (fX3_hasOwnTag S x3 x5) fun v_31 =>
  Option.bind (ix 24 x3) fun j_32 =>
  Option.bind (ldO T j_32 x5) fun v_33 =>
  if v_31 = v_33 then
    Option.bind (fX3_hasTag S x3 x5) fun v_34 =>
    Option.bind (fX4_hasTag T x3 x5) fun v_35 =>
    if v_34 = v_35 then
      Option.bind (some (x5 + 1)) fun x5_36 =>
      k289 x4_30 x5_36
    else
      none
  else
    none
set_option maxHeartbeats 4000000 in
set_option maxRecDepth 100000 in
theorem wX4_isSame_315 {p : Program} {l : Launch} {e : Env} {s : State} {m : MethodId} {args : Array Value} {below : List Frame} {meth : Method} {c : Code} {D : va_G} {k : Nat → ClassId} {qx r : Nat → Nat} {ws0 : va_W} (C : Ctx p s m args meth c cX4_isSame 7 RX4 (some .boolean)) (E : gEL D k s) {r1 : Unit} (S : St) (T : St) (x2 : Int32) (x3 : Int32) (k275 : Int32 → Int32 → Option Unit) (hk275 : ∀ (x2 : Int32) (x3 : Int32), k275 x2 x3 = some r1 → ∀ (H : Heap) (locs : List Loc) (ls : Array Slot), gS D ws0 k qx r S T [] s H locs → lv_has ls 7 [(0, .ref (r 0)), (1, .ref (qx 0)), (2, .int x2), (3, .int x3)] → W p l e ({ frames := 4, cells := 21, slots := 520, locals := 87 } : Room) s m args below meth c H locs 0 0 (MQ below (va_Qi (fun (x : Int32) (_ : Unit) => x = 1) (fun _ _ => True) (va_A ws0 s.heap.size)) args s 21 520 (va_A ws0 s.heap.size)) (F0 m 275 ls [])) (k289 : Int32 → Int32 → Option Unit) (hk289 : ∀ (x4 : Int32) (x5 : Int32), k289 x4 x5 = some r1 → ∀ (H : Heap) (locs : List Loc) (ls : Array Slot), gS D ws0 k qx r S T [] s H locs → lv_has ls 7 [(0, .ref (r 0)), (1, .ref (qx 0)), (2, .int x2), (3, .int x3), (4, .int x4), (5, .int x5)] → W p l e ({ frames := 4, cells := 21, slots := 520, locals := 87 } : Room) s m args below meth c H locs 0 0 (MQ below (va_Qi (fun (x : Int32) (_ : Unit) => x = 1) (fun _ _ => True) (va_A ws0 s.heap.size)) args s 21 520 (va_A ws0 s.heap.size)) (F0 m 289 ls [])) : ∀ (x5 : Int32) (t0 : Int32) (t1 : Int32), fX4_isSame_315 S T x2 x3 k275 k289 x5 t0 t1 = some r1 → ∀ (H : Heap) (locs : List Loc) (ls : Array Slot), gS D ws0 k qx r S T [] s H locs → lv_has ls 7 [(0, .ref (r 0)), (1, .ref (qx 0)), (2, .int x2), (3, .int x3), (5, .int x5)] → W p l e ({ frames := 4, cells := 21, slots := 520, locals := 87 } : Room) s m args below meth c H locs 0 0 (MQ below (va_Qi (fun (x : Int32) (_ : Unit) => x = 1) (fun _ _ => True) (va_A ws0 s.heap.size)) args s 21 520 (va_A ws0 s.heap.size)) (F0 m 315 ls [.int t1, .int t0]) := by
  intro x5 t0 t1 hf H locs ls hw hl
  unfold fX4_isSame_315 at hf
  refine lv_iadd C.1 C.2.1 dX4_isSame_315 ?_
  obtain ⟨x4_30, hx4_30, hf⟩ := bnd hf
  refine topi_b hx4_30 ?_
  refine lv_istore (lv' := [(4, .int x4_30), (0, .ref (r 0)), (1, .ref (qx 0)), (2, .int x2), (3, .int x3), (5, .int x5)]) C.1 C.2.1 dX4_isSame_316 hl (by decide) rfl (fun ls hl => ?_)
  refine lv_aload_n C.1 C.2.1 dX4_isSame_318 rfl (lv_at hl 2 rfl) ?_
  refine lv_iload_n C.1 C.2.1 dX4_isSame_319 rfl (lv_at hl 4 rfl) ?_
  refine lv_iload C.1 C.2.1 dX4_isSame_320 (lv_at hl 5 rfl) ?_
  obtain ⟨v_31, hv_31, hf⟩ := bnd hf
  refine l_xi (rm := ({ frames := 1, cells := 0, slots := 0, locals := 21 } : Room)) (As := [.int x3, .int x5]) (rest := []) C E hw F_X3_hasOwnTag rfl (fun _ => ctX3_hasOwnTag l (cI := k 0) (D := D) (q := qx) S x3 x5 _ hv_31) km_X4_88 rfl hl.1 rfl (Nat.le_of_ble_eq_true rfl) ⟨(Nat.le_of_ble_eq_true rfl), (Nat.le_of_ble_eq_true rfl)⟩ ⟨(Nat.le_of_ble_eq_true rfl), (Nat.le_of_ble_eq_true rfl)⟩ dX4_isSame_322 (fun H locs hw => ?_)
  refine lv_aload_n C.1 C.2.1 dX4_isSame_325 rfl (lv_at hl 1 rfl) ?_
  refine l_get C E hw 5 (by decide) kf_X4_15 rfl dX4_isSame_326 ?_
  refine lv_iload_n C.1 C.2.1 dX4_isSame_329 rfl (lv_at hl 4 rfl) ?_
  obtain ⟨j_32, hj_32, hf⟩ := bnd hf
  refine l_aaO C E hw hj_32 dX4_isSame_330 ?_
  refine lv_iload C.1 C.2.1 dX4_isSame_331 (lv_at hl 5 rfl) ?_
  obtain ⟨v_33, hv_33, hf⟩ := bnd hf
  refine l_zald C E hw hv_33 dX4_isSame_333 ?_
  refine lv_icmp_ne (tgt := 354) C.1 C.2.1 dX4_isSame_334 (by decide) (fun hc => ?_) (fun hc => ?_)
  · have hf := iff_ hc hf
    refine lv_iconst (v := 0) C.1 C.2.1 dX4_isSame_354 (by decide) ?_
    cases hf
  · have hf := ift hc hf
    refine lv_aload_n C.1 C.2.1 dX4_isSame_337 rfl (lv_at hl 2 rfl) ?_
    refine lv_iload_n C.1 C.2.1 dX4_isSame_338 rfl (lv_at hl 4 rfl) ?_
    refine lv_iload C.1 C.2.1 dX4_isSame_339 (lv_at hl 5 rfl) ?_
    obtain ⟨v_34, hv_34, hf⟩ := bnd hf
    refine l_xi (rm := ({ frames := 1, cells := 0, slots := 0, locals := 21 } : Room)) (As := [.int x3, .int x5]) (rest := []) C E hw F_X3_hasTag rfl (fun _ => ctX3_hasTag l (cI := k 0) (D := D) (q := qx) S x3 x5 _ hv_34) km_X4_91 rfl hl.1 rfl (Nat.le_of_ble_eq_true rfl) ⟨(Nat.le_of_ble_eq_true rfl), (Nat.le_of_ble_eq_true rfl)⟩ ⟨(Nat.le_of_ble_eq_true rfl), (Nat.le_of_ble_eq_true rfl)⟩ dX4_isSame_341 (fun H locs hw => ?_)
    refine lv_aload_n C.1 C.2.1 dX4_isSame_344 rfl (lv_at hl 1 rfl) ?_
    refine lv_iload_n C.1 C.2.1 dX4_isSame_345 rfl (lv_at hl 4 rfl) ?_
    refine lv_iload C.1 C.2.1 dX4_isSame_346 (lv_at hl 5 rfl) ?_
    obtain ⟨v_35, hv_35, hf⟩ := bnd hf
    refine l_si (rm := ({ frames := 1, cells := 0, slots := 0, locals := 23 } : Room)) (As := [.int x3, .int x5]) (rest := [.int v_34]) C E hw F_X4_hasTag rfl (fun tf tq nt _ => ctX4_hasTag l (k := k) (D := D) (r := r) (tf := tf) (tq := tq) (nt := nt) T x3 x5 _ hv_35) km_X4_43 rfl hl.1 rfl (Nat.le_of_ble_eq_true rfl) ⟨(Nat.le_of_ble_eq_true rfl), (Nat.le_of_ble_eq_true rfl)⟩ ⟨(Nat.le_of_ble_eq_true rfl), (Nat.le_of_ble_eq_true rfl)⟩ dX4_isSame_348 (fun H locs hw => ?_)
    refine lv_icmp_eq (tgt := 356) C.1 C.2.1 dX4_isSame_351 (by decide) (fun hc => ?_) (fun hc => ?_)
    · have hf := ift hc hf
      obtain ⟨x5_36, hx5_36, hf⟩ := bnd hf
      refine lv_iinc (v := x5_36) (lv' := [(5, .int x5_36), (4, .int x4_30), (0, .ref (r 0)), (1, .ref (qx 0)), (2, .int x2), (3, .int x3)]) C.1 C.2.1 dX4_isSame_356 hl (k := 5) rfl (inc1 hx5_36) (by decide) rfl (fun ls hl => ?_)
      refine lv_goto (tgt := 289) C.1 C.2.1 dX4_isSame_359 (by decide) ?_
      exact hk289 x4_30 x5_36 hf _ _ _ hw (lv_sub hl [2, 3, 4, 5, 1, 0] rfl)
    · have hf := iff_ hc hf
      refine lv_iconst (v := 0) C.1 C.2.1 dX4_isSame_354 (by decide) ?_
      cases hf
def fX4_isSame_289 (S : St) (T : St) (x2 : Int32) (x3 : Int32) (k275 : Int32 → Int32 → Option Unit) : Nat → Int32 → Int32 → Option Unit
  | 0, _, _ => none
  | n + 1, x4, x5 =>
    if (T 34 0) ≤ x5 then
      Option.bind (fX3_tagsOf S x3) fun v_11 =>
      if v_11 = x4 then
        Option.bind (fX3_vividnessOf S x3) fun v_12 =>
        Option.bind (ld T 3 24 x3) fun v_13 =>
        if v_12 = v_13 then
          Option.bind (fX3_nightOf S x3) fun v_14 =>
          Option.bind (ld T 4 24 x3) fun v_15 =>
          if v_14 = v_15 then
            Option.bind (ld T 3 24 x3) fun v_16 =>
            Option.bind (some ((x2 + v_16))) fun x2_17 =>
            Option.bind (some (x3 + 1)) fun x3_18 =>
            k275 x2_17 x3_18
          else
            none
        else
          none
      else
        none
    else
      Option.bind (fX4_hasTag T x3 x5) fun v_19 =>
      if v_19 = 0 then
        fX4_isSame_315 S T x2 x3 k275 (fX4_isSame_289 S T x2 x3 k275 n) x5 x4 0
      else
        fX4_isSame_315 S T x2 x3 k275 (fX4_isSame_289 S T x2 x3 k275 n) x5 x4 1
set_option maxHeartbeats 4000000 in
set_option maxRecDepth 100000 in
theorem wX4_isSame_289 {p : Program} {l : Launch} {e : Env} {s : State} {m : MethodId} {args : Array Value} {below : List Frame} {meth : Method} {c : Code} {D : va_G} {k : Nat → ClassId} {qx r : Nat → Nat} {ws0 : va_W} (C : Ctx p s m args meth c cX4_isSame 7 RX4 (some .boolean)) (E : gEL D k s) {r1 : Unit} (S : St) (T : St) (x2 : Int32) (x3 : Int32) (k275 : Int32 → Int32 → Option Unit) (hk275 : ∀ (x2 : Int32) (x3 : Int32), k275 x2 x3 = some r1 → ∀ (H : Heap) (locs : List Loc) (ls : Array Slot), gS D ws0 k qx r S T [] s H locs → lv_has ls 7 [(0, .ref (r 0)), (1, .ref (qx 0)), (2, .int x2), (3, .int x3)] → W p l e ({ frames := 4, cells := 21, slots := 520, locals := 87 } : Room) s m args below meth c H locs 0 0 (MQ below (va_Qi (fun (x : Int32) (_ : Unit) => x = 1) (fun _ _ => True) (va_A ws0 s.heap.size)) args s 21 520 (va_A ws0 s.heap.size)) (F0 m 275 ls [])) : ∀ (n : Nat) (x4 : Int32) (x5 : Int32), fX4_isSame_289 S T x2 x3 k275 n x4 x5 = some r1 → ∀ (H : Heap) (locs : List Loc) (ls : Array Slot), gS D ws0 k qx r S T [] s H locs → lv_has ls 7 [(0, .ref (r 0)), (1, .ref (qx 0)), (2, .int x2), (3, .int x3), (4, .int x4), (5, .int x5)] → W p l e ({ frames := 4, cells := 21, slots := 520, locals := 87 } : Room) s m args below meth c H locs 0 0 (MQ below (va_Qi (fun (x : Int32) (_ : Unit) => x = 1) (fun _ _ => True) (va_A ws0 s.heap.size)) args s 21 520 (va_A ws0 s.heap.size)) (F0 m 289 ls []) := by
  intro n
  induction n with
  | zero => intro x4 x5 hf; rw [fX4_isSame_289] at hf; cases hf
  | succ n ih =>
    intro x4 x5 hf H locs ls hw hl
    rw [fX4_isSame_289] at hf
    refine lv_iload C.1 C.2.1 dX4_isSame_289 (lv_at hl 5 rfl) ?_
    refine lv_aload_n C.1 C.2.1 dX4_isSame_291 rfl (lv_at hl 0 rfl) ?_
    refine l_get C E hw 0 (by decide) kf_X4_29 rfl dX4_isSame_292 ?_
    refine lv_icmp_ge (tgt := 362) C.1 C.2.1 dX4_isSame_295 (by decide) (fun hc => ?_) (fun hc => ?_)
    · have hf := ift hc hf
      refine lv_aload_n C.1 C.2.1 dX4_isSame_362 rfl (lv_at hl 1 rfl) ?_
      refine lv_iload_n C.1 C.2.1 dX4_isSame_363 rfl (lv_at hl 3 rfl) ?_
      obtain ⟨v_11, hv_11, hf⟩ := bnd hf
      refine l_xi (rm := ({ frames := 1, cells := 0, slots := 0, locals := 21 } : Room)) (As := [.int x3]) (rest := []) C E hw F_X3_tagsOf rfl (fun _ => ctX3_tagsOf l (cI := k 0) (D := D) (q := qx) S x3 _ hv_11) km_X4_92 rfl hl.1 rfl (Nat.le_of_ble_eq_true rfl) ⟨(Nat.le_of_ble_eq_true rfl), (Nat.le_of_ble_eq_true rfl)⟩ ⟨(Nat.le_of_ble_eq_true rfl), (Nat.le_of_ble_eq_true rfl)⟩ dX4_isSame_364 (fun H locs hw => ?_)
      refine lv_iload C.1 C.2.1 dX4_isSame_367 (lv_at hl 4 rfl) ?_
      refine lv_icmp_ne (tgt := 400) C.1 C.2.1 dX4_isSame_369 (by decide) (fun hc => ?_) (fun hc => ?_)
      · have hf := iff_ hc hf
        refine lv_iconst (v := 0) C.1 C.2.1 dX4_isSame_400 (by decide) ?_
        cases hf
      · have hf := ift hc hf
        refine lv_aload_n C.1 C.2.1 dX4_isSame_372 rfl (lv_at hl 1 rfl) ?_
        refine lv_iload_n C.1 C.2.1 dX4_isSame_373 rfl (lv_at hl 3 rfl) ?_
        obtain ⟨v_12, hv_12, hf⟩ := bnd hf
        refine l_xi (rm := ({ frames := 1, cells := 0, slots := 0, locals := 21 } : Room)) (As := [.int x3]) (rest := []) C E hw F_X3_vividnessOf rfl (fun _ => ctX3_vividnessOf l (cI := k 0) (D := D) (q := qx) S x3 _ hv_12) km_X4_95 rfl hl.1 rfl (Nat.le_of_ble_eq_true rfl) ⟨(Nat.le_of_ble_eq_true rfl), (Nat.le_of_ble_eq_true rfl)⟩ ⟨(Nat.le_of_ble_eq_true rfl), (Nat.le_of_ble_eq_true rfl)⟩ dX4_isSame_374 (fun H locs hw => ?_)
        refine lv_aload_n C.1 C.2.1 dX4_isSame_377 rfl (lv_at hl 0 rfl) ?_
        refine l_get C E hw 6 (by decide) kf_X4_18 rfl dX4_isSame_378 ?_
        refine lv_iload_n C.1 C.2.1 dX4_isSame_381 rfl (lv_at hl 3 rfl) ?_
        obtain ⟨v_13, hv_13, hf⟩ := bnd hf
        refine l_ald C E hw 3 (by decide) (fun _ _ => rfl) hv_13 dX4_isSame_382 ?_
        refine lv_icmp_ne (tgt := 400) C.1 C.2.1 dX4_isSame_383 (by decide) (fun hc => ?_) (fun hc => ?_)
        · have hf := iff_ hc hf
          refine lv_iconst (v := 0) C.1 C.2.1 dX4_isSame_400 (by decide) ?_
          cases hf
        · have hf := ift hc hf
          refine lv_aload_n C.1 C.2.1 dX4_isSame_386 rfl (lv_at hl 1 rfl) ?_
          refine lv_iload_n C.1 C.2.1 dX4_isSame_387 rfl (lv_at hl 3 rfl) ?_
          obtain ⟨v_14, hv_14, hf⟩ := bnd hf
          refine l_xi (rm := ({ frames := 1, cells := 0, slots := 0, locals := 21 } : Room)) (As := [.int x3]) (rest := []) C E hw F_X3_nightOf rfl (fun _ => ctX3_nightOf l (cI := k 0) (D := D) (q := qx) S x3 _ hv_14) km_X4_98 rfl hl.1 rfl (Nat.le_of_ble_eq_true rfl) ⟨(Nat.le_of_ble_eq_true rfl), (Nat.le_of_ble_eq_true rfl)⟩ ⟨(Nat.le_of_ble_eq_true rfl), (Nat.le_of_ble_eq_true rfl)⟩ dX4_isSame_388 (fun H locs hw => ?_)
          refine lv_aload_n C.1 C.2.1 dX4_isSame_391 rfl (lv_at hl 0 rfl) ?_
          refine l_get C E hw 7 (by decide) kf_X4_21 rfl dX4_isSame_392 ?_
          refine lv_iload_n C.1 C.2.1 dX4_isSame_395 rfl (lv_at hl 3 rfl) ?_
          obtain ⟨v_15, hv_15, hf⟩ := bnd hf
          refine l_ald C E hw 4 (by decide) (fun _ _ => rfl) hv_15 dX4_isSame_396 ?_
          refine lv_icmp_eq (tgt := 402) C.1 C.2.1 dX4_isSame_397 (by decide) (fun hc => ?_) (fun hc => ?_)
          · have hf := ift hc hf
            refine lv_iload_n C.1 C.2.1 dX4_isSame_402 rfl (lv_at hl 2 rfl) ?_
            refine lv_aload_n C.1 C.2.1 dX4_isSame_403 rfl (lv_at hl 0 rfl) ?_
            refine l_get C E hw 6 (by decide) kf_X4_18 rfl dX4_isSame_404 ?_
            refine lv_iload_n C.1 C.2.1 dX4_isSame_407 rfl (lv_at hl 3 rfl) ?_
            obtain ⟨v_16, hv_16, hf⟩ := bnd hf
            refine l_ald C E hw 3 (by decide) (fun _ _ => rfl) hv_16 dX4_isSame_408 ?_
            refine lv_iadd C.1 C.2.1 dX4_isSame_409 ?_
            obtain ⟨x2_17, hx2_17, hf⟩ := bnd hf
            refine topi_b hx2_17 ?_
            refine lv_istore_n (lv' := [(2, .int x2_17), (0, .ref (r 0)), (1, .ref (qx 0)), (3, .int x3), (4, .int x4), (5, .int x5)]) C.1 C.2.1 dX4_isSame_410 rfl hl (by decide) rfl (fun ls hl => ?_)
            obtain ⟨x3_18, hx3_18, hf⟩ := bnd hf
            refine lv_iinc (v := x3_18) (lv' := [(3, .int x3_18), (2, .int x2_17), (0, .ref (r 0)), (1, .ref (qx 0)), (4, .int x4), (5, .int x5)]) C.1 C.2.1 dX4_isSame_411 hl (k := 3) rfl (inc1 hx3_18) (by decide) rfl (fun ls hl => ?_)
            refine lv_goto (tgt := 275) C.1 C.2.1 dX4_isSame_414 (by decide) ?_
            exact hk275 x2_17 x3_18 hf _ _ _ hw (lv_sub hl [2, 3, 1, 0] rfl)
          · have hf := iff_ hc hf
            refine lv_iconst (v := 0) C.1 C.2.1 dX4_isSame_400 (by decide) ?_
            cases hf
    · have hf := iff_ hc hf
      refine lv_iload C.1 C.2.1 dX4_isSame_298 (lv_at hl 4 rfl) ?_
      refine lv_aload_n C.1 C.2.1 dX4_isSame_300 rfl (lv_at hl 0 rfl) ?_
      refine lv_iload_n C.1 C.2.1 dX4_isSame_301 rfl (lv_at hl 3 rfl) ?_
      refine lv_iload C.1 C.2.1 dX4_isSame_302 (lv_at hl 5 rfl) ?_
      obtain ⟨v_19, hv_19, hf⟩ := bnd hf
      refine l_si (rm := ({ frames := 1, cells := 0, slots := 0, locals := 23 } : Room)) (As := [.int x3, .int x5]) (rest := [.int x4]) C E hw F_X4_hasTag rfl (fun tf tq nt _ => ctX4_hasTag l (k := k) (D := D) (r := r) (tf := tf) (tq := tq) (nt := nt) T x3 x5 _ hv_19) km_X4_43 rfl hl.1 rfl (Nat.le_of_ble_eq_true rfl) ⟨(Nat.le_of_ble_eq_true rfl), (Nat.le_of_ble_eq_true rfl)⟩ ⟨(Nat.le_of_ble_eq_true rfl), (Nat.le_of_ble_eq_true rfl)⟩ dX4_isSame_304 (fun H locs hw => ?_)
      refine lv_if_eq (tgt := 314) C.1 C.2.1 dX4_isSame_307 (by decide) (fun hc => ?_) (fun hc => ?_)
      · have hf := ift hc hf
        refine lv_iconst (v := 0) C.1 C.2.1 dX4_isSame_314 (by decide) ?_
        exact wX4_isSame_315 C E S T x2 x3 k275 hk275 (fX4_isSame_289 S T x2 x3 k275 n) ih x5 x4 0 hf _ _ _ hw (lv_sub hl [0, 1, 2, 3, 5] rfl)
      · have hf := iff_ hc hf
        refine lv_iconst (v := 1) C.1 C.2.1 dX4_isSame_310 (by decide) ?_
        refine lv_goto (tgt := 315) C.1 C.2.1 dX4_isSame_311 (by decide) ?_
        exact wX4_isSame_315 C E S T x2 x3 k275 hk275 (fX4_isSame_289 S T x2 x3 k275 n) ih x5 x4 1 hf _ _ _ hw (lv_sub hl [0, 1, 2, 3, 5] rfl)
def fX4_isSame_275 (S : St) (T : St) : Nat → Int32 → Int32 → Option Unit
  | 0, _, _ => none
  | n + 1, x2, x3 =>
    if (T 35 0) ≤ x3 then
      Option.bind (fX4_matches T) fun B_7 =>
      fX4_isSame_425 S T B_7 x2 100 0
    else
      fX4_isSame_289 S T x2 x3 (fX4_isSame_275 S T n) 100 0 0
set_option maxHeartbeats 4000000 in
set_option maxRecDepth 100000 in
theorem wX4_isSame_275 {p : Program} {l : Launch} {e : Env} {s : State} {m : MethodId} {args : Array Value} {below : List Frame} {meth : Method} {c : Code} {D : va_G} {k : Nat → ClassId} {qx r : Nat → Nat} {ws0 : va_W} (C : Ctx p s m args meth c cX4_isSame 7 RX4 (some .boolean)) (E : gEL D k s) {r1 : Unit} (S : St) (T : St) : ∀ (n : Nat) (x2 : Int32) (x3 : Int32), fX4_isSame_275 S T n x2 x3 = some r1 → ∀ (H : Heap) (locs : List Loc) (ls : Array Slot), gS D ws0 k qx r S T [] s H locs → lv_has ls 7 [(0, .ref (r 0)), (1, .ref (qx 0)), (2, .int x2), (3, .int x3)] → W p l e ({ frames := 4, cells := 21, slots := 520, locals := 87 } : Room) s m args below meth c H locs 0 0 (MQ below (va_Qi (fun (x : Int32) (_ : Unit) => x = 1) (fun _ _ => True) (va_A ws0 s.heap.size)) args s 21 520 (va_A ws0 s.heap.size)) (F0 m 275 ls []) := by
  intro n
  induction n with
  | zero => intro x2 x3 hf; rw [fX4_isSame_275] at hf; cases hf
  | succ n ih =>
    intro x2 x3 hf H locs ls hw hl
    rw [fX4_isSame_275] at hf
    refine lv_iload_n C.1 C.2.1 dX4_isSame_275 rfl (lv_at hl 3 rfl) ?_
    refine lv_aload_n C.1 C.2.1 dX4_isSame_276 rfl (lv_at hl 0 rfl) ?_
    refine l_get C E hw 1 (by decide) kf_X4_40 rfl dX4_isSame_277 ?_
    refine lv_icmp_ge (tgt := 417) C.1 C.2.1 dX4_isSame_280 (by decide) (fun hc => ?_) (fun hc => ?_)
    · have hf := ift hc hf
      refine lv_aload_n C.1 C.2.1 dX4_isSame_417 rfl (lv_at hl 0 rfl) ?_
      obtain ⟨B_7, hB_7, hf⟩ := bnd hf
      refine l_mat (rm := ({ frames := 2, cells := 21, slots := 520, locals := 46 } : Room)) (As := []) (rest := []) C E hw F_X4_matches rfl (fun tf tq nt _ hg => ctX4_matches l (k := k) (D := D) (r := r) (tf := tf) (tq := tq) (nt := nt) T hg _ hB_7) km_X4_101 rfl hl.1 rfl (Nat.le_of_ble_eq_true rfl) ⟨(Nat.le_of_ble_eq_true rfl), (Nat.le_of_ble_eq_true rfl)⟩ ⟨(Nat.le_of_ble_eq_true rfl), (Nat.le_of_ble_eq_true rfl)⟩ dX4_isSame_418 (fun qa mq H locs hw => ?_)
      refine lv_astore_n (lv' := [(3, .ref (qa)), (0, .ref (r 0)), (1, .ref (qx 0)), (2, .int x2)]) C.1 C.2.1 dX4_isSame_421 rfl hl (by decide) rfl (fun ls hl => ?_)
      refine lv_iconst (v := 0) C.1 C.2.1 dX4_isSame_422 (by decide) ?_
      refine lv_istore (lv' := [(4, .int 0), (3, .ref (qa)), (0, .ref (r 0)), (1, .ref (qx 0)), (2, .int x2)]) C.1 C.2.1 dX4_isSame_423 hl (by decide) rfl (fun ls hl => ?_)
      exact wX4_isSame_425 C E S T B_7 x2 100 0 hf _ _ _ _ _ hw (lv_sub hl [2, 3, 4, 1, 0] rfl)
    · have hf := iff_ hc hf
      refine lv_iconst (v := 0) C.1 C.2.1 dX4_isSame_283 (by decide) ?_
      refine lv_istore (lv' := [(4, .int 0), (0, .ref (r 0)), (1, .ref (qx 0)), (2, .int x2), (3, .int x3)]) C.1 C.2.1 dX4_isSame_284 hl (by decide) rfl (fun ls hl => ?_)
      refine lv_iconst (v := 0) C.1 C.2.1 dX4_isSame_286 (by decide) ?_
      refine lv_istore (lv' := [(5, .int 0), (4, .int 0), (0, .ref (r 0)), (1, .ref (qx 0)), (2, .int x2), (3, .int x3)]) C.1 C.2.1 dX4_isSame_287 hl (by decide) rfl (fun ls hl => ?_)
      exact wX4_isSame_289 C E S T x2 x3 (fX4_isSame_275 S T n) ih 100 0 0 hf _ _ _ hw (lv_sub hl [2, 3, 4, 5, 1, 0] rfl)
def fX4_isSame_234 (S : St) (T : St) (k60 : Int32 → Option Unit) (x2 : Int32) (x3 : Int32) (x4 : Int32) (x5 : Int32) : Option Unit :=
  Option.bind (fX3_tagsAbove S x2) fun v_51 =>
  if v_51 = x3 then
    Option.bind (fX3_tagsBelow S x2) fun v_52 =>
    if v_52 = x4 then
      Option.bind (fX3_dreamsWith S x2) fun v_53 =>
      if v_53 = x5 then
        Option.bind (some (x2 + 1)) fun x2_54 =>
        k60 x2_54
      else
        none
    else
      none
  else
    none
set_option maxHeartbeats 4000000 in
set_option maxRecDepth 100000 in
theorem wX4_isSame_234 {p : Program} {l : Launch} {e : Env} {s : State} {m : MethodId} {args : Array Value} {below : List Frame} {meth : Method} {c : Code} {D : va_G} {k : Nat → ClassId} {qx r : Nat → Nat} {ws0 : va_W} (C : Ctx p s m args meth c cX4_isSame 7 RX4 (some .boolean)) (E : gEL D k s) {r1 : Unit} (S : St) (T : St) (k60 : Int32 → Option Unit) (hk60 : ∀ (x2 : Int32), k60 x2 = some r1 → ∀ (H : Heap) (locs : List Loc) (ls : Array Slot), gS D ws0 k qx r S T [] s H locs → lv_has ls 7 [(0, .ref (r 0)), (1, .ref (qx 0)), (2, .int x2)] → W p l e ({ frames := 4, cells := 21, slots := 520, locals := 87 } : Room) s m args below meth c H locs 0 0 (MQ below (va_Qi (fun (x : Int32) (_ : Unit) => x = 1) (fun _ _ => True) (va_A ws0 s.heap.size)) args s 21 520 (va_A ws0 s.heap.size)) (F0 m 60 ls [])) : ∀ (x2 : Int32) (x3 : Int32) (x4 : Int32) (x5 : Int32), fX4_isSame_234 S T k60 x2 x3 x4 x5 = some r1 → ∀ (H : Heap) (locs : List Loc) (ls : Array Slot), gS D ws0 k qx r S T [] s H locs → lv_has ls 7 [(0, .ref (r 0)), (1, .ref (qx 0)), (2, .int x2), (3, .int x3), (4, .int x4), (5, .int x5)] → W p l e ({ frames := 4, cells := 21, slots := 520, locals := 87 } : Room) s m args below meth c H locs 0 0 (MQ below (va_Qi (fun (x : Int32) (_ : Unit) => x = 1) (fun _ _ => True) (va_A ws0 s.heap.size)) args s 21 520 (va_A ws0 s.heap.size)) (F0 m 234 ls []) := by
  intro x2 x3 x4 x5 hf H locs ls hw hl
  unfold fX4_isSame_234 at hf
  refine lv_aload_n C.1 C.2.1 dX4_isSame_234 rfl (lv_at hl 1 rfl) ?_
  refine lv_iload_n C.1 C.2.1 dX4_isSame_235 rfl (lv_at hl 2 rfl) ?_
  obtain ⟨v_51, hv_51, hf⟩ := bnd hf
  refine l_xi (rm := ({ frames := 2, cells := 0, slots := 0, locals := 41 } : Room)) (As := [.int x2]) (rest := []) C E hw F_X3_tagsAbove rfl (fun _ => ctX3_tagsAbove l (cI := k 0) (D := D) (q := qx) S x2 _ hv_51) km_X4_79 rfl hl.1 rfl (Nat.le_of_ble_eq_true rfl) ⟨(Nat.le_of_ble_eq_true rfl), (Nat.le_of_ble_eq_true rfl)⟩ ⟨(Nat.le_of_ble_eq_true rfl), (Nat.le_of_ble_eq_true rfl)⟩ dX4_isSame_236 (fun H locs hw => ?_)
  refine lv_iload_n C.1 C.2.1 dX4_isSame_239 rfl (lv_at hl 3 rfl) ?_
  refine lv_icmp_ne (tgt := 263) C.1 C.2.1 dX4_isSame_240 (by decide) (fun hc => ?_) (fun hc => ?_)
  · have hf := iff_ hc hf
    refine lv_iconst (v := 0) C.1 C.2.1 dX4_isSame_263 (by decide) ?_
    cases hf
  · have hf := ift hc hf
    refine lv_aload_n C.1 C.2.1 dX4_isSame_243 rfl (lv_at hl 1 rfl) ?_
    refine lv_iload_n C.1 C.2.1 dX4_isSame_244 rfl (lv_at hl 2 rfl) ?_
    obtain ⟨v_52, hv_52, hf⟩ := bnd hf
    refine l_xi (rm := ({ frames := 3, cells := 0, slots := 0, locals := 66 } : Room)) (As := [.int x2]) (rest := []) C E hw F_X3_tagsBelow rfl (fun _ => ctX3_tagsBelow l (cI := k 0) (D := D) (q := qx) S x2 _ hv_52) km_X4_82 rfl hl.1 rfl (Nat.le_of_ble_eq_true rfl) ⟨(Nat.le_of_ble_eq_true rfl), (Nat.le_of_ble_eq_true rfl)⟩ ⟨(Nat.le_of_ble_eq_true rfl), (Nat.le_of_ble_eq_true rfl)⟩ dX4_isSame_245 (fun H locs hw => ?_)
    refine lv_iload C.1 C.2.1 dX4_isSame_248 (lv_at hl 4 rfl) ?_
    refine lv_icmp_ne (tgt := 263) C.1 C.2.1 dX4_isSame_250 (by decide) (fun hc => ?_) (fun hc => ?_)
    · have hf := iff_ hc hf
      refine lv_iconst (v := 0) C.1 C.2.1 dX4_isSame_263 (by decide) ?_
      cases hf
    · have hf := ift hc hf
      refine lv_aload_n C.1 C.2.1 dX4_isSame_253 rfl (lv_at hl 1 rfl) ?_
      refine lv_iload_n C.1 C.2.1 dX4_isSame_254 rfl (lv_at hl 2 rfl) ?_
      obtain ⟨v_53, hv_53, hf⟩ := bnd hf
      refine l_xi (rm := ({ frames := 2, cells := 0, slots := 0, locals := 44 } : Room)) (As := [.int x2]) (rest := []) C E hw F_X3_dreamsWith rfl (fun _ => ctX3_dreamsWith l (cI := k 0) (D := D) (q := qx) S x2 _ hv_53) km_X4_85 rfl hl.1 rfl (Nat.le_of_ble_eq_true rfl) ⟨(Nat.le_of_ble_eq_true rfl), (Nat.le_of_ble_eq_true rfl)⟩ ⟨(Nat.le_of_ble_eq_true rfl), (Nat.le_of_ble_eq_true rfl)⟩ dX4_isSame_255 (fun H locs hw => ?_)
      refine lv_iload C.1 C.2.1 dX4_isSame_258 (lv_at hl 5 rfl) ?_
      refine lv_icmp_eq (tgt := 265) C.1 C.2.1 dX4_isSame_260 (by decide) (fun hc => ?_) (fun hc => ?_)
      · have hf := ift hc hf
        obtain ⟨x2_54, hx2_54, hf⟩ := bnd hf
        refine lv_iinc (v := x2_54) (lv' := [(2, .int x2_54), (0, .ref (r 0)), (1, .ref (qx 0)), (3, .int x3), (4, .int x4), (5, .int x5)]) C.1 C.2.1 dX4_isSame_265 hl (k := 2) rfl (inc1 hx2_54) (by decide) rfl (fun ls hl => ?_)
        refine lv_goto (tgt := 60) C.1 C.2.1 dX4_isSame_268 (by decide) ?_
        exact hk60 x2_54 hf _ _ _ hw (lv_sub hl [1, 2, 0] rfl)
      · have hf := iff_ hc hf
        refine lv_iconst (v := 0) C.1 C.2.1 dX4_isSame_263 (by decide) ?_
        cases hf
def fX4_isSame_208 (S : St) (T : St) (k60 : Int32 → Option Unit) (x2 : Int32) (x3 : Int32) (x4 : Int32) (x5 : Int32) (t0 : Int32) (t1 : Int32) : Option Unit :=
  if t0 = t1 then
    Option.bind (ld T 1 16 x2) fun v_37 =>
    if v_37 < 0 then
      fX4_isSame_234 S T k60 x2 x3 x4 x5
    else
      Option.bind (fX3_parentOf S x2) fun v_38 =>
      Option.bind (ld T 1 16 x2) fun v_39 =>
      if v_38 = v_39 then
        fX4_isSame_234 S T k60 x2 x3 x4 x5
      else
        none
  else
    none
set_option maxHeartbeats 4000000 in
set_option maxRecDepth 100000 in
theorem wX4_isSame_208 {p : Program} {l : Launch} {e : Env} {s : State} {m : MethodId} {args : Array Value} {below : List Frame} {meth : Method} {c : Code} {D : va_G} {k : Nat → ClassId} {qx r : Nat → Nat} {ws0 : va_W} (C : Ctx p s m args meth c cX4_isSame 7 RX4 (some .boolean)) (E : gEL D k s) {r1 : Unit} (S : St) (T : St) (k60 : Int32 → Option Unit) (hk60 : ∀ (x2 : Int32), k60 x2 = some r1 → ∀ (H : Heap) (locs : List Loc) (ls : Array Slot), gS D ws0 k qx r S T [] s H locs → lv_has ls 7 [(0, .ref (r 0)), (1, .ref (qx 0)), (2, .int x2)] → W p l e ({ frames := 4, cells := 21, slots := 520, locals := 87 } : Room) s m args below meth c H locs 0 0 (MQ below (va_Qi (fun (x : Int32) (_ : Unit) => x = 1) (fun _ _ => True) (va_A ws0 s.heap.size)) args s 21 520 (va_A ws0 s.heap.size)) (F0 m 60 ls [])) : ∀ (x2 : Int32) (x3 : Int32) (x4 : Int32) (x5 : Int32) (t0 : Int32) (t1 : Int32), fX4_isSame_208 S T k60 x2 x3 x4 x5 t0 t1 = some r1 → ∀ (H : Heap) (locs : List Loc) (ls : Array Slot), gS D ws0 k qx r S T [] s H locs → lv_has ls 7 [(0, .ref (r 0)), (1, .ref (qx 0)), (2, .int x2), (3, .int x3), (4, .int x4), (5, .int x5)] → W p l e ({ frames := 4, cells := 21, slots := 520, locals := 87 } : Room) s m args below meth c H locs 0 0 (MQ below (va_Qi (fun (x : Int32) (_ : Unit) => x = 1) (fun _ _ => True) (va_A ws0 s.heap.size)) args s 21 520 (va_A ws0 s.heap.size)) (F0 m 208 ls [.int t1, .int t0]) := by
  intro x2 x3 x4 x5 t0 t1 hf H locs ls hw hl
  unfold fX4_isSame_208 at hf
  refine lv_icmp_ne (tgt := 263) C.1 C.2.1 dX4_isSame_208 (by decide) (fun hc => ?_) (fun hc => ?_)
  · have hf := iff_ hc hf
    refine lv_iconst (v := 0) C.1 C.2.1 dX4_isSame_263 (by decide) ?_
    cases hf
  · have hf := ift hc hf
    refine lv_aload_n C.1 C.2.1 dX4_isSame_211 rfl (lv_at hl 0 rfl) ?_
    refine l_get C E hw 4 (by decide) kf_X4_7 rfl dX4_isSame_212 ?_
    refine lv_iload_n C.1 C.2.1 dX4_isSame_215 rfl (lv_at hl 2 rfl) ?_
    obtain ⟨v_37, hv_37, hf⟩ := bnd hf
    refine l_ald C E hw 1 (by decide) (fun _ _ => rfl) hv_37 dX4_isSame_216 ?_
    refine lv_if_lt (tgt := 234) C.1 C.2.1 dX4_isSame_217 (by decide) (fun hc => ?_) (fun hc => ?_)
    · have hf := ift hc hf
      exact wX4_isSame_234 C E S T k60 hk60 x2 x3 x4 x5 hf _ _ _ hw (lv_sub hl [0, 1, 2, 3, 4, 5] rfl)
    · have hf := iff_ hc hf
      refine lv_aload_n C.1 C.2.1 dX4_isSame_220 rfl (lv_at hl 1 rfl) ?_
      refine lv_iload_n C.1 C.2.1 dX4_isSame_221 rfl (lv_at hl 2 rfl) ?_
      obtain ⟨v_38, hv_38, hf⟩ := bnd hf
      refine l_xi (rm := ({ frames := 2, cells := 0, slots := 0, locals := 42 } : Room)) (As := [.int x2]) (rest := []) C E hw F_X3_parentOf rfl (fun _ => ctX3_parentOf l (cI := k 0) (D := D) (q := qx) S x2 _ hv_38) km_X4_76 rfl hl.1 rfl (Nat.le_of_ble_eq_true rfl) ⟨(Nat.le_of_ble_eq_true rfl), (Nat.le_of_ble_eq_true rfl)⟩ ⟨(Nat.le_of_ble_eq_true rfl), (Nat.le_of_ble_eq_true rfl)⟩ dX4_isSame_222 (fun H locs hw => ?_)
      refine lv_aload_n C.1 C.2.1 dX4_isSame_225 rfl (lv_at hl 0 rfl) ?_
      refine l_get C E hw 4 (by decide) kf_X4_7 rfl dX4_isSame_226 ?_
      refine lv_iload_n C.1 C.2.1 dX4_isSame_229 rfl (lv_at hl 2 rfl) ?_
      obtain ⟨v_39, hv_39, hf⟩ := bnd hf
      refine l_ald C E hw 1 (by decide) (fun _ _ => rfl) hv_39 dX4_isSame_230 ?_
      refine lv_icmp_ne (tgt := 263) C.1 C.2.1 dX4_isSame_231 (by decide) (fun hc => ?_) (fun hc => ?_)
      · have hf := iff_ hc hf
        refine lv_iconst (v := 0) C.1 C.2.1 dX4_isSame_263 (by decide) ?_
        cases hf
      · have hf := ift hc hf
        exact wX4_isSame_234 C E S T k60 hk60 x2 x3 x4 x5 hf _ _ _ hw (lv_sub hl [0, 1, 2, 3, 4, 5] rfl)
def fX4_isSame_180 (S : St) (T : St) (x2 : Int32) (x3 : Int32) (x4 : Int32) (k60 : Int32 → Option Unit) (k154 : Int32 → Int32 → Option Unit) (x6 : Int32) (t0 : Int32) (t1 : Int32) : Option Unit :=
  Option.bind (some ((t0 + t1))) fun x5_40 =>
  Option.bind (some (x6 + 1)) fun x6_41 =>
  k154 x5_40 x6_41
set_option maxHeartbeats 4000000 in
set_option maxRecDepth 100000 in
theorem wX4_isSame_180 {p : Program} {l : Launch} {e : Env} {s : State} {m : MethodId} {args : Array Value} {below : List Frame} {meth : Method} {c : Code} {D : va_G} {k : Nat → ClassId} {qx r : Nat → Nat} {ws0 : va_W} (C : Ctx p s m args meth c cX4_isSame 7 RX4 (some .boolean)) (E : gEL D k s) {r1 : Unit} (S : St) (T : St) (x2 : Int32) (x3 : Int32) (x4 : Int32) (k60 : Int32 → Option Unit) (hk60 : ∀ (x2 : Int32), k60 x2 = some r1 → ∀ (H : Heap) (locs : List Loc) (ls : Array Slot), gS D ws0 k qx r S T [] s H locs → lv_has ls 7 [(0, .ref (r 0)), (1, .ref (qx 0)), (2, .int x2)] → W p l e ({ frames := 4, cells := 21, slots := 520, locals := 87 } : Room) s m args below meth c H locs 0 0 (MQ below (va_Qi (fun (x : Int32) (_ : Unit) => x = 1) (fun _ _ => True) (va_A ws0 s.heap.size)) args s 21 520 (va_A ws0 s.heap.size)) (F0 m 60 ls [])) (k154 : Int32 → Int32 → Option Unit) (hk154 : ∀ (x5 : Int32) (x6 : Int32), k154 x5 x6 = some r1 → ∀ (H : Heap) (locs : List Loc) (ls : Array Slot), gS D ws0 k qx r S T [] s H locs → lv_has ls 7 [(0, .ref (r 0)), (1, .ref (qx 0)), (2, .int x2), (3, .int x3), (4, .int x4), (5, .int x5), (6, .int x6)] → W p l e ({ frames := 4, cells := 21, slots := 520, locals := 87 } : Room) s m args below meth c H locs 0 0 (MQ below (va_Qi (fun (x : Int32) (_ : Unit) => x = 1) (fun _ _ => True) (va_A ws0 s.heap.size)) args s 21 520 (va_A ws0 s.heap.size)) (F0 m 154 ls [])) : ∀ (x6 : Int32) (t0 : Int32) (t1 : Int32), fX4_isSame_180 S T x2 x3 x4 k60 k154 x6 t0 t1 = some r1 → ∀ (H : Heap) (locs : List Loc) (ls : Array Slot), gS D ws0 k qx r S T [] s H locs → lv_has ls 7 [(0, .ref (r 0)), (1, .ref (qx 0)), (2, .int x2), (3, .int x3), (4, .int x4), (6, .int x6)] → W p l e ({ frames := 4, cells := 21, slots := 520, locals := 87 } : Room) s m args below meth c H locs 0 0 (MQ below (va_Qi (fun (x : Int32) (_ : Unit) => x = 1) (fun _ _ => True) (va_A ws0 s.heap.size)) args s 21 520 (va_A ws0 s.heap.size)) (F0 m 180 ls [.int t1, .int t0]) := by
  intro x6 t0 t1 hf H locs ls hw hl
  unfold fX4_isSame_180 at hf
  refine lv_iadd C.1 C.2.1 dX4_isSame_180 ?_
  obtain ⟨x5_40, hx5_40, hf⟩ := bnd hf
  refine topi_b hx5_40 ?_
  refine lv_istore (lv' := [(5, .int x5_40), (0, .ref (r 0)), (1, .ref (qx 0)), (2, .int x2), (3, .int x3), (4, .int x4), (6, .int x6)]) C.1 C.2.1 dX4_isSame_181 hl (by decide) rfl (fun ls hl => ?_)
  obtain ⟨x6_41, hx6_41, hf⟩ := bnd hf
  refine lv_iinc (v := x6_41) (lv' := [(6, .int x6_41), (5, .int x5_40), (0, .ref (r 0)), (1, .ref (qx 0)), (2, .int x2), (3, .int x3), (4, .int x4)]) C.1 C.2.1 dX4_isSame_183 hl (k := 6) rfl (inc1 hx6_41) (by decide) rfl (fun ls hl => ?_)
  refine lv_goto (tgt := 154) C.1 C.2.1 dX4_isSame_186 (by decide) ?_
  exact hk154 x5_40 x6_41 hf _ _ _ hw (lv_sub hl [2, 3, 4, 5, 6, 1, 0] rfl)
def fX4_isSame_154 (S : St) (T : St) (x2 : Int32) (x3 : Int32) (x4 : Int32) (k60 : Int32 → Option Unit) : Nat → Int32 → Int32 → Option Unit
  | 0, _, _ => none
  | n + 1, x5, x6 =>
    if (T 35 0) ≤ x6 then
      Option.bind (fX3_hasParent S x2) fun v_20 =>
      Option.bind (ld T 1 16 x2) fun v_21 =>
      if v_21 < 0 then
        fX4_isSame_208 S T k60 x2 x3 x4 x5 v_20 0
      else
        fX4_isSame_208 S T k60 x2 x3 x4 x5 v_20 1
    else
      Option.bind (fX4_hasTag T x6 x2) fun v_22 =>
      if v_22 = 0 then
        fX4_isSame_180 S T x2 x3 x4 k60 (fX4_isSame_154 S T x2 x3 x4 k60 n) x6 x5 0
      else
        fX4_isSame_180 S T x2 x3 x4 k60 (fX4_isSame_154 S T x2 x3 x4 k60 n) x6 x5 1
set_option maxHeartbeats 4000000 in
set_option maxRecDepth 100000 in
theorem wX4_isSame_154 {p : Program} {l : Launch} {e : Env} {s : State} {m : MethodId} {args : Array Value} {below : List Frame} {meth : Method} {c : Code} {D : va_G} {k : Nat → ClassId} {qx r : Nat → Nat} {ws0 : va_W} (C : Ctx p s m args meth c cX4_isSame 7 RX4 (some .boolean)) (E : gEL D k s) {r1 : Unit} (S : St) (T : St) (x2 : Int32) (x3 : Int32) (x4 : Int32) (k60 : Int32 → Option Unit) (hk60 : ∀ (x2 : Int32), k60 x2 = some r1 → ∀ (H : Heap) (locs : List Loc) (ls : Array Slot), gS D ws0 k qx r S T [] s H locs → lv_has ls 7 [(0, .ref (r 0)), (1, .ref (qx 0)), (2, .int x2)] → W p l e ({ frames := 4, cells := 21, slots := 520, locals := 87 } : Room) s m args below meth c H locs 0 0 (MQ below (va_Qi (fun (x : Int32) (_ : Unit) => x = 1) (fun _ _ => True) (va_A ws0 s.heap.size)) args s 21 520 (va_A ws0 s.heap.size)) (F0 m 60 ls [])) : ∀ (n : Nat) (x5 : Int32) (x6 : Int32), fX4_isSame_154 S T x2 x3 x4 k60 n x5 x6 = some r1 → ∀ (H : Heap) (locs : List Loc) (ls : Array Slot), gS D ws0 k qx r S T [] s H locs → lv_has ls 7 [(0, .ref (r 0)), (1, .ref (qx 0)), (2, .int x2), (3, .int x3), (4, .int x4), (5, .int x5), (6, .int x6)] → W p l e ({ frames := 4, cells := 21, slots := 520, locals := 87 } : Room) s m args below meth c H locs 0 0 (MQ below (va_Qi (fun (x : Int32) (_ : Unit) => x = 1) (fun _ _ => True) (va_A ws0 s.heap.size)) args s 21 520 (va_A ws0 s.heap.size)) (F0 m 154 ls []) := by
  intro n
  induction n with
  | zero => intro x5 x6 hf; rw [fX4_isSame_154] at hf; cases hf
  | succ n ih =>
    intro x5 x6 hf H locs ls hw hl
    rw [fX4_isSame_154] at hf
    refine lv_iload C.1 C.2.1 dX4_isSame_154 (lv_at hl 6 rfl) ?_
    refine lv_aload_n C.1 C.2.1 dX4_isSame_156 rfl (lv_at hl 0 rfl) ?_
    refine l_get C E hw 1 (by decide) kf_X4_40 rfl dX4_isSame_157 ?_
    refine lv_icmp_ge (tgt := 189) C.1 C.2.1 dX4_isSame_160 (by decide) (fun hc => ?_) (fun hc => ?_)
    · have hf := ift hc hf
      refine lv_aload_n C.1 C.2.1 dX4_isSame_189 rfl (lv_at hl 1 rfl) ?_
      refine lv_iload_n C.1 C.2.1 dX4_isSame_190 rfl (lv_at hl 2 rfl) ?_
      obtain ⟨v_20, hv_20, hf⟩ := bnd hf
      refine l_xi (rm := ({ frames := 1, cells := 0, slots := 0, locals := 21 } : Room)) (As := [.int x2]) (rest := []) C E hw F_X3_hasParent rfl (fun _ => ctX3_hasParent l (cI := k 0) (D := D) (q := qx) S x2 _ hv_20) km_X4_72 rfl hl.1 rfl (Nat.le_of_ble_eq_true rfl) ⟨(Nat.le_of_ble_eq_true rfl), (Nat.le_of_ble_eq_true rfl)⟩ ⟨(Nat.le_of_ble_eq_true rfl), (Nat.le_of_ble_eq_true rfl)⟩ dX4_isSame_191 (fun H locs hw => ?_)
      refine lv_aload_n C.1 C.2.1 dX4_isSame_194 rfl (lv_at hl 0 rfl) ?_
      refine l_get C E hw 4 (by decide) kf_X4_7 rfl dX4_isSame_195 ?_
      refine lv_iload_n C.1 C.2.1 dX4_isSame_198 rfl (lv_at hl 2 rfl) ?_
      obtain ⟨v_21, hv_21, hf⟩ := bnd hf
      refine l_ald C E hw 1 (by decide) (fun _ _ => rfl) hv_21 dX4_isSame_199 ?_
      refine lv_if_lt (tgt := 207) C.1 C.2.1 dX4_isSame_200 (by decide) (fun hc => ?_) (fun hc => ?_)
      · have hf := ift hc hf
        refine lv_iconst (v := 0) C.1 C.2.1 dX4_isSame_207 (by decide) ?_
        exact wX4_isSame_208 C E S T k60 hk60 x2 x3 x4 x5 v_20 0 hf _ _ _ hw (lv_sub hl [0, 1, 2, 3, 4, 5] rfl)
      · have hf := iff_ hc hf
        refine lv_iconst (v := 1) C.1 C.2.1 dX4_isSame_203 (by decide) ?_
        refine lv_goto (tgt := 208) C.1 C.2.1 dX4_isSame_204 (by decide) ?_
        exact wX4_isSame_208 C E S T k60 hk60 x2 x3 x4 x5 v_20 1 hf _ _ _ hw (lv_sub hl [0, 1, 2, 3, 4, 5] rfl)
    · have hf := iff_ hc hf
      refine lv_iload C.1 C.2.1 dX4_isSame_163 (lv_at hl 5 rfl) ?_
      refine lv_aload_n C.1 C.2.1 dX4_isSame_165 rfl (lv_at hl 0 rfl) ?_
      refine lv_iload C.1 C.2.1 dX4_isSame_166 (lv_at hl 6 rfl) ?_
      refine lv_iload_n C.1 C.2.1 dX4_isSame_168 rfl (lv_at hl 2 rfl) ?_
      obtain ⟨v_22, hv_22, hf⟩ := bnd hf
      refine l_si (rm := ({ frames := 1, cells := 0, slots := 0, locals := 23 } : Room)) (As := [.int x6, .int x2]) (rest := [.int x5]) C E hw F_X4_hasTag rfl (fun tf tq nt _ => ctX4_hasTag l (k := k) (D := D) (r := r) (tf := tf) (tq := tq) (nt := nt) T x6 x2 _ hv_22) km_X4_43 rfl hl.1 rfl (Nat.le_of_ble_eq_true rfl) ⟨(Nat.le_of_ble_eq_true rfl), (Nat.le_of_ble_eq_true rfl)⟩ ⟨(Nat.le_of_ble_eq_true rfl), (Nat.le_of_ble_eq_true rfl)⟩ dX4_isSame_169 (fun H locs hw => ?_)
      refine lv_if_eq (tgt := 179) C.1 C.2.1 dX4_isSame_172 (by decide) (fun hc => ?_) (fun hc => ?_)
      · have hf := ift hc hf
        refine lv_iconst (v := 0) C.1 C.2.1 dX4_isSame_179 (by decide) ?_
        exact wX4_isSame_180 C E S T x2 x3 x4 k60 hk60 (fX4_isSame_154 S T x2 x3 x4 k60 n) ih x6 x5 0 hf _ _ _ hw (lv_sub hl [0, 1, 2, 3, 4, 6] rfl)
      · have hf := iff_ hc hf
        refine lv_iconst (v := 1) C.1 C.2.1 dX4_isSame_175 (by decide) ?_
        refine lv_goto (tgt := 180) C.1 C.2.1 dX4_isSame_176 (by decide) ?_
        exact wX4_isSame_180 C E S T x2 x3 x4 k60 hk60 (fX4_isSame_154 S T x2 x3 x4 k60 n) ih x6 x5 1 hf _ _ _ hw (lv_sub hl [0, 1, 2, 3, 4, 6] rfl)
def fX4_isSame_123 (S : St) (T : St) (x2 : Int32) (x5 : Int32) (k60 : Int32 → Option Unit) (k79 : Int32 → Int32 → Int32 → Option Unit) (x3 : Int32) (x6 : Int32) (t0 : Int32) (t1 : Int32) : Option Unit :=
  Option.bind (some ((t0 + t1))) fun x4_42 =>
  Option.bind (fX3_isBelow S x2 x6) fun v_43 =>
  Option.bind (fX4_isBelow T x2 x6) fun v_44 =>
  if v_43 = v_44 then
    Option.bind (some (x6 + 1)) fun x6_45 =>
    k79 x3 x4_42 x6_45
  else
    none
set_option maxHeartbeats 4000000 in
set_option maxRecDepth 100000 in
theorem wX4_isSame_123 {p : Program} {l : Launch} {e : Env} {s : State} {m : MethodId} {args : Array Value} {below : List Frame} {meth : Method} {c : Code} {D : va_G} {k : Nat → ClassId} {qx r : Nat → Nat} {ws0 : va_W} (C : Ctx p s m args meth c cX4_isSame 7 RX4 (some .boolean)) (E : gEL D k s) {r1 : Unit} (S : St) (T : St) (x2 : Int32) (x5 : Int32) (k60 : Int32 → Option Unit) (hk60 : ∀ (x2 : Int32), k60 x2 = some r1 → ∀ (H : Heap) (locs : List Loc) (ls : Array Slot), gS D ws0 k qx r S T [] s H locs → lv_has ls 7 [(0, .ref (r 0)), (1, .ref (qx 0)), (2, .int x2)] → W p l e ({ frames := 4, cells := 21, slots := 520, locals := 87 } : Room) s m args below meth c H locs 0 0 (MQ below (va_Qi (fun (x : Int32) (_ : Unit) => x = 1) (fun _ _ => True) (va_A ws0 s.heap.size)) args s 21 520 (va_A ws0 s.heap.size)) (F0 m 60 ls [])) (k79 : Int32 → Int32 → Int32 → Option Unit) (hk79 : ∀ (x3 : Int32) (x4 : Int32) (x6 : Int32), k79 x3 x4 x6 = some r1 → ∀ (H : Heap) (locs : List Loc) (ls : Array Slot), gS D ws0 k qx r S T [] s H locs → lv_has ls 7 [(0, .ref (r 0)), (1, .ref (qx 0)), (2, .int x2), (3, .int x3), (4, .int x4), (5, .int x5), (6, .int x6)] → W p l e ({ frames := 4, cells := 21, slots := 520, locals := 87 } : Room) s m args below meth c H locs 0 0 (MQ below (va_Qi (fun (x : Int32) (_ : Unit) => x = 1) (fun _ _ => True) (va_A ws0 s.heap.size)) args s 21 520 (va_A ws0 s.heap.size)) (F0 m 79 ls [])) : ∀ (x3 : Int32) (x6 : Int32) (t0 : Int32) (t1 : Int32), fX4_isSame_123 S T x2 x5 k60 k79 x3 x6 t0 t1 = some r1 → ∀ (H : Heap) (locs : List Loc) (ls : Array Slot), gS D ws0 k qx r S T [] s H locs → lv_has ls 7 [(0, .ref (r 0)), (1, .ref (qx 0)), (2, .int x2), (3, .int x3), (5, .int x5), (6, .int x6)] → W p l e ({ frames := 4, cells := 21, slots := 520, locals := 87 } : Room) s m args below meth c H locs 0 0 (MQ below (va_Qi (fun (x : Int32) (_ : Unit) => x = 1) (fun _ _ => True) (va_A ws0 s.heap.size)) args s 21 520 (va_A ws0 s.heap.size)) (F0 m 123 ls [.int t1, .int t0]) := by
  intro x3 x6 t0 t1 hf H locs ls hw hl
  unfold fX4_isSame_123 at hf
  refine lv_iadd C.1 C.2.1 dX4_isSame_123 ?_
  obtain ⟨x4_42, hx4_42, hf⟩ := bnd hf
  refine topi_b hx4_42 ?_
  refine lv_istore (lv' := [(4, .int x4_42), (0, .ref (r 0)), (1, .ref (qx 0)), (2, .int x2), (3, .int x3), (5, .int x5), (6, .int x6)]) C.1 C.2.1 dX4_isSame_124 hl (by decide) rfl (fun ls hl => ?_)
  refine lv_aload_n C.1 C.2.1 dX4_isSame_126 rfl (lv_at hl 2 rfl) ?_
  refine lv_iload_n C.1 C.2.1 dX4_isSame_127 rfl (lv_at hl 3 rfl) ?_
  refine lv_iload C.1 C.2.1 dX4_isSame_128 (lv_at hl 6 rfl) ?_
  obtain ⟨v_43, hv_43, hf⟩ := bnd hf
  refine l_xi (rm := ({ frames := 2, cells := 0, slots := 0, locals := 43 } : Room)) (As := [.int x2, .int x6]) (rest := []) C E hw F_X3_isBelow rfl (fun _ => ctX3_isBelow l (cI := k 0) (D := D) (q := qx) S x2 x6 _ hv_43) km_X4_71 rfl hl.1 rfl (Nat.le_of_ble_eq_true rfl) ⟨(Nat.le_of_ble_eq_true rfl), (Nat.le_of_ble_eq_true rfl)⟩ ⟨(Nat.le_of_ble_eq_true rfl), (Nat.le_of_ble_eq_true rfl)⟩ dX4_isSame_130 (fun H locs hw => ?_)
  refine lv_aload_n C.1 C.2.1 dX4_isSame_133 rfl (lv_at hl 1 rfl) ?_
  refine lv_iload_n C.1 C.2.1 dX4_isSame_134 rfl (lv_at hl 3 rfl) ?_
  refine lv_iload C.1 C.2.1 dX4_isSame_135 (lv_at hl 6 rfl) ?_
  obtain ⟨v_44, hv_44, hf⟩ := bnd hf
  refine l_si (rm := ({ frames := 0, cells := 0, slots := 0, locals := 0 } : Room)) (As := [.int x2, .int x6]) (rest := [.int v_43]) C E hw F_X4_isBelow rfl (fun tf tq nt _ => ctX4_isBelow l (k := k) (D := D) (r := r) (tf := tf) (tq := tq) (nt := nt) T x2 x6 _ hv_44) km_X4_33 rfl hl.1 rfl (Nat.le_of_ble_eq_true rfl) ⟨(Nat.le_of_ble_eq_true rfl), (Nat.le_of_ble_eq_true rfl)⟩ ⟨(Nat.le_of_ble_eq_true rfl), (Nat.le_of_ble_eq_true rfl)⟩ dX4_isSame_137 (fun H locs hw => ?_)
  refine lv_icmp_eq (tgt := 145) C.1 C.2.1 dX4_isSame_140 (by decide) (fun hc => ?_) (fun hc => ?_)
  · have hf := ift hc hf
    obtain ⟨x6_45, hx6_45, hf⟩ := bnd hf
    refine lv_iinc (v := x6_45) (lv' := [(6, .int x6_45), (4, .int x4_42), (0, .ref (r 0)), (1, .ref (qx 0)), (2, .int x2), (3, .int x3), (5, .int x5)]) C.1 C.2.1 dX4_isSame_145 hl (k := 6) rfl (inc1 hx6_45) (by decide) rfl (fun ls hl => ?_)
    refine lv_goto (tgt := 79) C.1 C.2.1 dX4_isSame_148 (by decide) ?_
    exact hk79 x3 x4_42 x6_45 hf _ _ _ hw (lv_sub hl [2, 3, 4, 5, 1, 6, 0] rfl)
  · have hf := iff_ hc hf
    refine lv_iconst (v := 0) C.1 C.2.1 dX4_isSame_143 (by decide) ?_
    cases hf
def fX4_isSame_104 (S : St) (T : St) (x2 : Int32) (x5 : Int32) (k60 : Int32 → Option Unit) (k79 : Int32 → Int32 → Int32 → Option Unit) (x4 : Int32) (x6 : Int32) (t0 : Int32) (t1 : Int32) : Option Unit :=
  Option.bind (some ((t0 + t1))) fun x3_23 =>
  Option.bind (fX4_isBelow T x6 x2) fun v_24 =>
  if v_24 = 0 then
    fX4_isSame_123 S T x2 x5 k60 k79 x3_23 x6 x4 0
  else
    fX4_isSame_123 S T x2 x5 k60 k79 x3_23 x6 x4 1
set_option maxHeartbeats 4000000 in
set_option maxRecDepth 100000 in
theorem wX4_isSame_104 {p : Program} {l : Launch} {e : Env} {s : State} {m : MethodId} {args : Array Value} {below : List Frame} {meth : Method} {c : Code} {D : va_G} {k : Nat → ClassId} {qx r : Nat → Nat} {ws0 : va_W} (C : Ctx p s m args meth c cX4_isSame 7 RX4 (some .boolean)) (E : gEL D k s) {r1 : Unit} (S : St) (T : St) (x2 : Int32) (x5 : Int32) (k60 : Int32 → Option Unit) (hk60 : ∀ (x2 : Int32), k60 x2 = some r1 → ∀ (H : Heap) (locs : List Loc) (ls : Array Slot), gS D ws0 k qx r S T [] s H locs → lv_has ls 7 [(0, .ref (r 0)), (1, .ref (qx 0)), (2, .int x2)] → W p l e ({ frames := 4, cells := 21, slots := 520, locals := 87 } : Room) s m args below meth c H locs 0 0 (MQ below (va_Qi (fun (x : Int32) (_ : Unit) => x = 1) (fun _ _ => True) (va_A ws0 s.heap.size)) args s 21 520 (va_A ws0 s.heap.size)) (F0 m 60 ls [])) (k79 : Int32 → Int32 → Int32 → Option Unit) (hk79 : ∀ (x3 : Int32) (x4 : Int32) (x6 : Int32), k79 x3 x4 x6 = some r1 → ∀ (H : Heap) (locs : List Loc) (ls : Array Slot), gS D ws0 k qx r S T [] s H locs → lv_has ls 7 [(0, .ref (r 0)), (1, .ref (qx 0)), (2, .int x2), (3, .int x3), (4, .int x4), (5, .int x5), (6, .int x6)] → W p l e ({ frames := 4, cells := 21, slots := 520, locals := 87 } : Room) s m args below meth c H locs 0 0 (MQ below (va_Qi (fun (x : Int32) (_ : Unit) => x = 1) (fun _ _ => True) (va_A ws0 s.heap.size)) args s 21 520 (va_A ws0 s.heap.size)) (F0 m 79 ls [])) : ∀ (x4 : Int32) (x6 : Int32) (t0 : Int32) (t1 : Int32), fX4_isSame_104 S T x2 x5 k60 k79 x4 x6 t0 t1 = some r1 → ∀ (H : Heap) (locs : List Loc) (ls : Array Slot), gS D ws0 k qx r S T [] s H locs → lv_has ls 7 [(0, .ref (r 0)), (1, .ref (qx 0)), (2, .int x2), (4, .int x4), (5, .int x5), (6, .int x6)] → W p l e ({ frames := 4, cells := 21, slots := 520, locals := 87 } : Room) s m args below meth c H locs 0 0 (MQ below (va_Qi (fun (x : Int32) (_ : Unit) => x = 1) (fun _ _ => True) (va_A ws0 s.heap.size)) args s 21 520 (va_A ws0 s.heap.size)) (F0 m 104 ls [.int t1, .int t0]) := by
  intro x4 x6 t0 t1 hf H locs ls hw hl
  unfold fX4_isSame_104 at hf
  refine lv_iadd C.1 C.2.1 dX4_isSame_104 ?_
  obtain ⟨x3_23, hx3_23, hf⟩ := bnd hf
  refine topi_b hx3_23 ?_
  refine lv_istore_n (lv' := [(3, .int x3_23), (0, .ref (r 0)), (1, .ref (qx 0)), (2, .int x2), (4, .int x4), (5, .int x5), (6, .int x6)]) C.1 C.2.1 dX4_isSame_105 rfl hl (by decide) rfl (fun ls hl => ?_)
  refine lv_iload C.1 C.2.1 dX4_isSame_106 (lv_at hl 4 rfl) ?_
  refine lv_aload_n C.1 C.2.1 dX4_isSame_108 rfl (lv_at hl 1 rfl) ?_
  refine lv_iload C.1 C.2.1 dX4_isSame_109 (lv_at hl 6 rfl) ?_
  refine lv_iload_n C.1 C.2.1 dX4_isSame_111 rfl (lv_at hl 3 rfl) ?_
  obtain ⟨v_24, hv_24, hf⟩ := bnd hf
  refine l_si (rm := ({ frames := 0, cells := 0, slots := 0, locals := 0 } : Room)) (As := [.int x6, .int x2]) (rest := [.int x4]) C E hw F_X4_isBelow rfl (fun tf tq nt _ => ctX4_isBelow l (k := k) (D := D) (r := r) (tf := tf) (tq := tq) (nt := nt) T x6 x2 _ hv_24) km_X4_33 rfl hl.1 rfl (Nat.le_of_ble_eq_true rfl) ⟨(Nat.le_of_ble_eq_true rfl), (Nat.le_of_ble_eq_true rfl)⟩ ⟨(Nat.le_of_ble_eq_true rfl), (Nat.le_of_ble_eq_true rfl)⟩ dX4_isSame_112 (fun H locs hw => ?_)
  refine lv_if_eq (tgt := 122) C.1 C.2.1 dX4_isSame_115 (by decide) (fun hc => ?_) (fun hc => ?_)
  · have hf := ift hc hf
    refine lv_iconst (v := 0) C.1 C.2.1 dX4_isSame_122 (by decide) ?_
    exact wX4_isSame_123 C E S T x2 x5 k60 hk60 k79 hk79 x3_23 x6 x4 0 hf _ _ _ hw (lv_sub hl [1, 2, 3, 0, 5, 6] rfl)
  · have hf := iff_ hc hf
    refine lv_iconst (v := 1) C.1 C.2.1 dX4_isSame_118 (by decide) ?_
    refine lv_goto (tgt := 123) C.1 C.2.1 dX4_isSame_119 (by decide) ?_
    exact wX4_isSame_123 C E S T x2 x5 k60 hk60 k79 hk79 x3_23 x6 x4 1 hf _ _ _ hw (lv_sub hl [1, 2, 3, 0, 5, 6] rfl)
def fX4_isSame_79 (S : St) (T : St) (x2 : Int32) (x5 : Int32) (k60 : Int32 → Option Unit) : Nat → Int32 → Int32 → Int32 → Option Unit
  | 0, _, _, _ => none
  | n + 1, x3, x4, x6 =>
    if (T 34 0) ≤ x6 then
      fX4_isSame_154 S T x2 x3 x4 k60 100 x5 0
    else
      Option.bind (fX4_isBelow T x2 x6) fun v_8 =>
      if v_8 = 0 then
        fX4_isSame_104 S T x2 x5 k60 (fX4_isSame_79 S T x2 x5 k60 n) x4 x6 x3 0
      else
        fX4_isSame_104 S T x2 x5 k60 (fX4_isSame_79 S T x2 x5 k60 n) x4 x6 x3 1
set_option maxHeartbeats 4000000 in
set_option maxRecDepth 100000 in
theorem wX4_isSame_79 {p : Program} {l : Launch} {e : Env} {s : State} {m : MethodId} {args : Array Value} {below : List Frame} {meth : Method} {c : Code} {D : va_G} {k : Nat → ClassId} {qx r : Nat → Nat} {ws0 : va_W} (C : Ctx p s m args meth c cX4_isSame 7 RX4 (some .boolean)) (E : gEL D k s) {r1 : Unit} (S : St) (T : St) (x2 : Int32) (x5 : Int32) (k60 : Int32 → Option Unit) (hk60 : ∀ (x2 : Int32), k60 x2 = some r1 → ∀ (H : Heap) (locs : List Loc) (ls : Array Slot), gS D ws0 k qx r S T [] s H locs → lv_has ls 7 [(0, .ref (r 0)), (1, .ref (qx 0)), (2, .int x2)] → W p l e ({ frames := 4, cells := 21, slots := 520, locals := 87 } : Room) s m args below meth c H locs 0 0 (MQ below (va_Qi (fun (x : Int32) (_ : Unit) => x = 1) (fun _ _ => True) (va_A ws0 s.heap.size)) args s 21 520 (va_A ws0 s.heap.size)) (F0 m 60 ls [])) : ∀ (n : Nat) (x3 : Int32) (x4 : Int32) (x6 : Int32), fX4_isSame_79 S T x2 x5 k60 n x3 x4 x6 = some r1 → ∀ (H : Heap) (locs : List Loc) (ls : Array Slot), gS D ws0 k qx r S T [] s H locs → lv_has ls 7 [(0, .ref (r 0)), (1, .ref (qx 0)), (2, .int x2), (3, .int x3), (4, .int x4), (5, .int x5), (6, .int x6)] → W p l e ({ frames := 4, cells := 21, slots := 520, locals := 87 } : Room) s m args below meth c H locs 0 0 (MQ below (va_Qi (fun (x : Int32) (_ : Unit) => x = 1) (fun _ _ => True) (va_A ws0 s.heap.size)) args s 21 520 (va_A ws0 s.heap.size)) (F0 m 79 ls []) := by
  intro n
  induction n with
  | zero => intro x3 x4 x6 hf; rw [fX4_isSame_79] at hf; cases hf
  | succ n ih =>
    intro x3 x4 x6 hf H locs ls hw hl
    rw [fX4_isSame_79] at hf
    refine lv_iload C.1 C.2.1 dX4_isSame_79 (lv_at hl 6 rfl) ?_
    refine lv_aload_n C.1 C.2.1 dX4_isSame_81 rfl (lv_at hl 0 rfl) ?_
    refine l_get C E hw 0 (by decide) kf_X4_29 rfl dX4_isSame_82 ?_
    refine lv_icmp_ge (tgt := 151) C.1 C.2.1 dX4_isSame_85 (by decide) (fun hc => ?_) (fun hc => ?_)
    · have hf := ift hc hf
      refine lv_iconst (v := 0) C.1 C.2.1 dX4_isSame_151 (by decide) ?_
      refine lv_istore (lv' := [(6, .int 0), (0, .ref (r 0)), (1, .ref (qx 0)), (2, .int x2), (3, .int x3), (4, .int x4), (5, .int x5)]) C.1 C.2.1 dX4_isSame_152 hl (by decide) rfl (fun ls hl => ?_)
      exact wX4_isSame_154 C E S T x2 x3 x4 k60 hk60 100 x5 0 hf _ _ _ hw (lv_sub hl [1, 2, 3, 4, 5, 6, 0] rfl)
    · have hf := iff_ hc hf
      refine lv_iload_n C.1 C.2.1 dX4_isSame_88 rfl (lv_at hl 3 rfl) ?_
      refine lv_aload_n C.1 C.2.1 dX4_isSame_89 rfl (lv_at hl 0 rfl) ?_
      refine lv_iload_n C.1 C.2.1 dX4_isSame_90 rfl (lv_at hl 2 rfl) ?_
      refine lv_iload C.1 C.2.1 dX4_isSame_91 (lv_at hl 6 rfl) ?_
      obtain ⟨v_8, hv_8, hf⟩ := bnd hf
      refine l_si (rm := ({ frames := 0, cells := 0, slots := 0, locals := 0 } : Room)) (As := [.int x2, .int x6]) (rest := [.int x3]) C E hw F_X4_isBelow rfl (fun tf tq nt _ => ctX4_isBelow l (k := k) (D := D) (r := r) (tf := tf) (tq := tq) (nt := nt) T x2 x6 _ hv_8) km_X4_33 rfl hl.1 rfl (Nat.le_of_ble_eq_true rfl) ⟨(Nat.le_of_ble_eq_true rfl), (Nat.le_of_ble_eq_true rfl)⟩ ⟨(Nat.le_of_ble_eq_true rfl), (Nat.le_of_ble_eq_true rfl)⟩ dX4_isSame_93 (fun H locs hw => ?_)
      refine lv_if_eq (tgt := 103) C.1 C.2.1 dX4_isSame_96 (by decide) (fun hc => ?_) (fun hc => ?_)
      · have hf := ift hc hf
        refine lv_iconst (v := 0) C.1 C.2.1 dX4_isSame_103 (by decide) ?_
        exact wX4_isSame_104 C E S T x2 x5 k60 hk60 (fX4_isSame_79 S T x2 x5 k60 n) ih x4 x6 x3 0 hf _ _ _ hw (lv_sub hl [0, 1, 2, 4, 5, 6] rfl)
      · have hf := iff_ hc hf
        refine lv_iconst (v := 1) C.1 C.2.1 dX4_isSame_99 (by decide) ?_
        refine lv_goto (tgt := 104) C.1 C.2.1 dX4_isSame_100 (by decide) ?_
        exact wX4_isSame_104 C E S T x2 x5 k60 hk60 (fX4_isSame_79 S T x2 x5 k60 n) ih x4 x6 x3 1 hf _ _ _ hw (lv_sub hl [0, 1, 2, 4, 5, 6] rfl)
def fX4_isSame_60 (S : St) (T : St) : Nat → Int32 → Option Unit
  | 0, _ => none
  | n + 1, x2 =>
    if (T 34 0) ≤ x2 then
      fX4_isSame_275 S T 100 0 0
    else
      fX4_isSame_79 S T x2 0 (fX4_isSame_60 S T n) 100 0 0 0
set_option maxHeartbeats 4000000 in
set_option maxRecDepth 100000 in
theorem wX4_isSame_60 {p : Program} {l : Launch} {e : Env} {s : State} {m : MethodId} {args : Array Value} {below : List Frame} {meth : Method} {c : Code} {D : va_G} {k : Nat → ClassId} {qx r : Nat → Nat} {ws0 : va_W} (C : Ctx p s m args meth c cX4_isSame 7 RX4 (some .boolean)) (E : gEL D k s) {r1 : Unit} (S : St) (T : St) : ∀ (n : Nat) (x2 : Int32), fX4_isSame_60 S T n x2 = some r1 → ∀ (H : Heap) (locs : List Loc) (ls : Array Slot), gS D ws0 k qx r S T [] s H locs → lv_has ls 7 [(0, .ref (r 0)), (1, .ref (qx 0)), (2, .int x2)] → W p l e ({ frames := 4, cells := 21, slots := 520, locals := 87 } : Room) s m args below meth c H locs 0 0 (MQ below (va_Qi (fun (x : Int32) (_ : Unit) => x = 1) (fun _ _ => True) (va_A ws0 s.heap.size)) args s 21 520 (va_A ws0 s.heap.size)) (F0 m 60 ls []) := by
  intro n
  induction n with
  | zero => intro x2 hf; rw [fX4_isSame_60] at hf; cases hf
  | succ n ih =>
    intro x2 hf H locs ls hw hl
    rw [fX4_isSame_60] at hf
    refine lv_iload_n C.1 C.2.1 dX4_isSame_60 rfl (lv_at hl 2 rfl) ?_
    refine lv_aload_n C.1 C.2.1 dX4_isSame_61 rfl (lv_at hl 0 rfl) ?_
    refine l_get C E hw 0 (by decide) kf_X4_29 rfl dX4_isSame_62 ?_
    refine lv_icmp_ge (tgt := 271) C.1 C.2.1 dX4_isSame_65 (by decide) (fun hc => ?_) (fun hc => ?_)
    · have hf := ift hc hf
      refine lv_iconst (v := 0) C.1 C.2.1 dX4_isSame_271 (by decide) ?_
      refine lv_istore_n (lv' := [(2, .int 0), (0, .ref (r 0)), (1, .ref (qx 0))]) C.1 C.2.1 dX4_isSame_272 rfl hl (by decide) rfl (fun ls hl => ?_)
      refine lv_iconst (v := 0) C.1 C.2.1 dX4_isSame_273 (by decide) ?_
      refine lv_istore_n (lv' := [(3, .int 0), (2, .int 0), (0, .ref (r 0)), (1, .ref (qx 0))]) C.1 C.2.1 dX4_isSame_274 rfl hl (by decide) rfl (fun ls hl => ?_)
      exact wX4_isSame_275 C E S T 100 0 0 hf _ _ _ hw (lv_sub hl [2, 3, 1, 0] rfl)
    · have hf := iff_ hc hf
      refine lv_iconst (v := 0) C.1 C.2.1 dX4_isSame_68 (by decide) ?_
      refine lv_istore_n (lv' := [(3, .int 0), (0, .ref (r 0)), (1, .ref (qx 0)), (2, .int x2)]) C.1 C.2.1 dX4_isSame_69 rfl hl (by decide) rfl (fun ls hl => ?_)
      refine lv_iconst (v := 0) C.1 C.2.1 dX4_isSame_70 (by decide) ?_
      refine lv_istore (lv' := [(4, .int 0), (3, .int 0), (0, .ref (r 0)), (1, .ref (qx 0)), (2, .int x2)]) C.1 C.2.1 dX4_isSame_71 hl (by decide) rfl (fun ls hl => ?_)
      refine lv_iconst (v := 0) C.1 C.2.1 dX4_isSame_73 (by decide) ?_
      refine lv_istore (lv' := [(5, .int 0), (4, .int 0), (3, .int 0), (0, .ref (r 0)), (1, .ref (qx 0)), (2, .int x2)]) C.1 C.2.1 dX4_isSame_74 hl (by decide) rfl (fun ls hl => ?_)
      refine lv_iconst (v := 0) C.1 C.2.1 dX4_isSame_76 (by decide) ?_
      refine lv_istore (lv' := [(6, .int 0), (5, .int 0), (4, .int 0), (3, .int 0), (0, .ref (r 0)), (1, .ref (qx 0)), (2, .int x2)]) C.1 C.2.1 dX4_isSame_77 hl (by decide) rfl (fun ls hl => ?_)
      exact wX4_isSame_79 C E S T x2 0 (fX4_isSame_60 S T n) ih 100 0 0 0 hf _ _ _ hw (lv_sub hl [4, 5, 6, 3, 2, 1, 0] rfl)
def fX4_isSame (S T : St) : Option Unit :=
  Option.bind (fX3_tags S) fun v_1 =>
  if v_1 = (T 34 0) then
    Option.bind (fX3_dreams S) fun v_2 =>
    if v_2 = (T 35 0) then
      Option.bind (fX3_terms S) fun v_3 =>
      if v_3 = (T 36 0) then
        Option.bind (fX3_nights S) fun v_4 =>
        if v_4 = (T 37 0) then
          Option.bind (fX3_fadedDreams S) fun v_5 =>
          Option.bind (fX4_faded T 0) fun v_6 =>
          if v_5 = v_6 then
            fX4_isSame_60 S T 100 0
          else
            none
        else
          none
      else
        none
    else
      none
  else
    none
set_option maxHeartbeats 4000000 in
set_option maxRecDepth 100000 in
theorem ctX4_isSame (l : Launch) {D : va_G} {k : Nat → ClassId} {qx r : Nat → Nat} (S T : St) {r1 : Unit} (hf : fX4_isSame S T = some r1) : ∀ tf tq nt sz, gok tf tq nt (T 36 0) → Met l yX4_isSame (Cond.code yX4_isSame cX4_isSame 7 (some .boolean) :: XALL) ({ frames := 4, cells := 21, slots := 520, locals := 87 } : Room) (va_Pc [.ref (r 0), .ref (qx 0)] (gPreL D k (LW k qx r tf tq nt S T []) sz)) (va_Qi (fun (x : Int32) (_ : Unit) => x = 1) (fun _ _ => True) (va_A (LW k qx r tf tq nt S T []) sz)) 21 520 (va_A (LW k qx r tf tq nt S T []) sz) := by
  intro tf tq nt sz hg0
  unfold fX4_isSame at hf
  refine Met.ofW (cc := cX4_isSame) (maxL := 7) (ret := (some .boolean)) (by decide) rfl ?_
  intro p e s m args below meth c s₁ B hml hv
  obtain ⟨rfl, hgv⟩ := hv
  have C : Ctx p s m _ meth c cX4_isSame 7 RX4 (some .boolean) := Ctx.of B hml rfl
  obtain ⟨E, hw, hsz⟩ := gL_start hgv
  subst hsz
  have hw : gS D (LW k qx r tf tq nt S T []) k qx r S T [] s s.heap [] := ⟨tf, tq, nt, hg0, hw⟩
  have hl := lv_entry ([.ref (r 0), .ref (qx 0)]) (n := 7) (Nat.le_of_ble_eq_true rfl)
  rw [lg_entry_eq]
  generalize (lg_sl ([.ref (r 0), .ref (qx 0)]) ++ List.replicate (7 - (lg_sl ([.ref (r 0), .ref (qx 0)])).length) Slot.unset).toArray = ls at hl ⊢
  have hl : lv_has ls 7 [(0, .ref (r 0)), (1, .ref (qx 0))] := hl
  refine lv_aload_n C.1 C.2.1 dX4_isSame_0 rfl (lv_at hl 1 rfl) ?_
  obtain ⟨v_1, hv_1, hf⟩ := bnd hf
  refine l_xi (rm := ({ frames := 0, cells := 0, slots := 0, locals := 0 } : Room)) (As := []) (rest := []) C E hw F_X3_tags rfl (fun _ => ctX3_tags l (cI := k 0) (D := D) (q := qx) S _ hv_1) km_X4_50 rfl hl.1 rfl (Nat.le_of_ble_eq_true rfl) ⟨(Nat.le_of_ble_eq_true rfl), (Nat.le_of_ble_eq_true rfl)⟩ ⟨(Nat.le_of_ble_eq_true rfl), (Nat.le_of_ble_eq_true rfl)⟩ dX4_isSame_1 (fun H locs hw => ?_)
  refine lv_aload_n C.1 C.2.1 dX4_isSame_4 rfl (lv_at hl 0 rfl) ?_
  refine l_get C E hw 0 (by decide) kf_X4_29 rfl dX4_isSame_5 ?_
  refine lv_icmp_ne (tgt := 56) C.1 C.2.1 dX4_isSame_8 (by decide) (fun hc => ?_) (fun hc => ?_)
  · have hf := iff_ hc hf
    refine lv_iconst (v := 0) C.1 C.2.1 dX4_isSame_56 (by decide) ?_
    cases hf
  · have hf := ift hc hf
    refine lv_aload_n C.1 C.2.1 dX4_isSame_11 rfl (lv_at hl 1 rfl) ?_
    obtain ⟨v_2, hv_2, hf⟩ := bnd hf
    refine l_xi (rm := ({ frames := 0, cells := 0, slots := 0, locals := 0 } : Room)) (As := []) (rest := []) C E hw F_X3_dreams rfl (fun _ => ctX3_dreams l (cI := k 0) (D := D) (q := qx) S _ hv_2) km_X4_55 rfl hl.1 rfl (Nat.le_of_ble_eq_true rfl) ⟨(Nat.le_of_ble_eq_true rfl), (Nat.le_of_ble_eq_true rfl)⟩ ⟨(Nat.le_of_ble_eq_true rfl), (Nat.le_of_ble_eq_true rfl)⟩ dX4_isSame_12 (fun H locs hw => ?_)
    refine lv_aload_n C.1 C.2.1 dX4_isSame_15 rfl (lv_at hl 0 rfl) ?_
    refine l_get C E hw 1 (by decide) kf_X4_40 rfl dX4_isSame_16 ?_
    refine lv_icmp_ne (tgt := 56) C.1 C.2.1 dX4_isSame_19 (by decide) (fun hc => ?_) (fun hc => ?_)
    · have hf := iff_ hc hf
      refine lv_iconst (v := 0) C.1 C.2.1 dX4_isSame_56 (by decide) ?_
      cases hf
    · have hf := ift hc hf
      refine lv_aload_n C.1 C.2.1 dX4_isSame_22 rfl (lv_at hl 1 rfl) ?_
      obtain ⟨v_3, hv_3, hf⟩ := bnd hf
      refine l_xi (rm := ({ frames := 0, cells := 0, slots := 0, locals := 0 } : Room)) (As := []) (rest := []) C E hw F_X3_terms rfl (fun _ => ctX3_terms l (cI := k 0) (D := D) (q := qx) S _ hv_3) km_X4_57 rfl hl.1 rfl (Nat.le_of_ble_eq_true rfl) ⟨(Nat.le_of_ble_eq_true rfl), (Nat.le_of_ble_eq_true rfl)⟩ ⟨(Nat.le_of_ble_eq_true rfl), (Nat.le_of_ble_eq_true rfl)⟩ dX4_isSame_23 (fun H locs hw => ?_)
      refine lv_aload_n C.1 C.2.1 dX4_isSame_26 rfl (lv_at hl 0 rfl) ?_
      refine l_get C E hw 2 (by decide) kf_X4_37 rfl dX4_isSame_27 ?_
      refine lv_icmp_ne (tgt := 56) C.1 C.2.1 dX4_isSame_30 (by decide) (fun hc => ?_) (fun hc => ?_)
      · have hf := iff_ hc hf
        refine lv_iconst (v := 0) C.1 C.2.1 dX4_isSame_56 (by decide) ?_
        cases hf
      · have hf := ift hc hf
        refine lv_aload_n C.1 C.2.1 dX4_isSame_33 rfl (lv_at hl 1 rfl) ?_
        obtain ⟨v_4, hv_4, hf⟩ := bnd hf
        refine l_xi (rm := ({ frames := 0, cells := 0, slots := 0, locals := 0 } : Room)) (As := []) (rest := []) C E hw F_X3_nights rfl (fun _ => ctX3_nights l (cI := k 0) (D := D) (q := qx) S _ hv_4) km_X4_59 rfl hl.1 rfl (Nat.le_of_ble_eq_true rfl) ⟨(Nat.le_of_ble_eq_true rfl), (Nat.le_of_ble_eq_true rfl)⟩ ⟨(Nat.le_of_ble_eq_true rfl), (Nat.le_of_ble_eq_true rfl)⟩ dX4_isSame_34 (fun H locs hw => ?_)
        refine lv_aload_n C.1 C.2.1 dX4_isSame_37 rfl (lv_at hl 0 rfl) ?_
        refine l_get C E hw 3 (by decide) kf_X4_62 rfl dX4_isSame_38 ?_
        refine lv_icmp_ne (tgt := 56) C.1 C.2.1 dX4_isSame_41 (by decide) (fun hc => ?_) (fun hc => ?_)
        · have hf := iff_ hc hf
          refine lv_iconst (v := 0) C.1 C.2.1 dX4_isSame_56 (by decide) ?_
          cases hf
        · have hf := ift hc hf
          refine lv_aload_n C.1 C.2.1 dX4_isSame_44 rfl (lv_at hl 1 rfl) ?_
          obtain ⟨v_5, hv_5, hf⟩ := bnd hf
          refine l_xi (rm := ({ frames := 3, cells := 0, slots := 0, locals := 67 } : Room)) (As := []) (rest := []) C E hw F_X3_fadedDreams rfl (fun _ => ctX3_fadedDreams l (cI := k 0) (D := D) (q := qx) S _ hv_5) km_X4_64 rfl hl.1 rfl (Nat.le_of_ble_eq_true rfl) ⟨(Nat.le_of_ble_eq_true rfl), (Nat.le_of_ble_eq_true rfl)⟩ ⟨(Nat.le_of_ble_eq_true rfl), (Nat.le_of_ble_eq_true rfl)⟩ dX4_isSame_45 (fun H locs hw => ?_)
          refine lv_aload_n C.1 C.2.1 dX4_isSame_48 rfl (lv_at hl 0 rfl) ?_
          refine lv_iconst (v := 0) C.1 C.2.1 dX4_isSame_49 (by decide) ?_
          obtain ⟨v_6, hv_6, hf⟩ := bnd hf
          refine l_si (rm := ({ frames := 1, cells := 0, slots := 0, locals := 23 } : Room)) (As := [.int 0]) (rest := [.int v_5]) C E hw F_X4_faded rfl (fun tf tq nt _ => ctX4_faded l (k := k) (D := D) (r := r) (tf := tf) (tq := tq) (nt := nt) T 0 _ hv_6) km_X4_67 rfl hl.1 rfl (Nat.le_of_ble_eq_true rfl) ⟨(Nat.le_of_ble_eq_true rfl), (Nat.le_of_ble_eq_true rfl)⟩ ⟨(Nat.le_of_ble_eq_true rfl), (Nat.le_of_ble_eq_true rfl)⟩ dX4_isSame_50 (fun H locs hw => ?_)
          refine lv_icmp_eq (tgt := 58) C.1 C.2.1 dX4_isSame_53 (by decide) (fun hc => ?_) (fun hc => ?_)
          · have hf := ift hc hf
            refine lv_iconst (v := 0) C.1 C.2.1 dX4_isSame_58 (by decide) ?_
            refine lv_istore_n (lv' := [(2, .int 0), (0, .ref (r 0)), (1, .ref (qx 0))]) C.1 C.2.1 dX4_isSame_59 rfl hl (by decide) rfl (fun ls hl => ?_)
            exact wX4_isSame_60 C E S T 100 0 hf _ _ _ hw (lv_sub hl [1, 2, 0] rfl)
          · have hf := iff_ hc hf
            refine lv_iconst (v := 0) C.1 C.2.1 dX4_isSame_56 (by decide) ?_
            cases hf
