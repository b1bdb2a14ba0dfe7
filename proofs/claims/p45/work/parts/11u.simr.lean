theorem F_X4_isBelow : FctV yX4_isBelow cX4_isBelow 4 (some .boolean) 2 := ⟨⟨kc_yX4_isBelow, kz_X4, by decide +kernel, by decide +kernel, by decide +kernel⟩, ki_yX4_isBelow, ks_yX4_isBelow⟩
def fX4_isBelow_7 (S : St) (x2 : Int32) : Nat → Int32 → Option Int32
  | 0, _ => none
  | n + 1, x3 =>
    if x3 < 0 then
      some 0
    else
      if x3 = x2 then
        some 1
      else
        Option.bind (ld S 1 16 x3) fun v_2 =>
        fX4_isBelow_7 S x2 n v_2
set_option maxHeartbeats 4000000 in
set_option maxRecDepth 100000 in
theorem wX4_isBelow_7 {p : Program} {l : Launch} {e : Env} {s : State} {m : MethodId} {args : Array Value} {below : List Frame} {meth : Method} {c : Code} {D : va_G} {k : Nat → ClassId} {r : Nat → Nat} {tf : Nat → Option Nat} {tq : Nat → Nat} {nt : Nat} (C : Ctx p s m args meth c cX4_isBelow 4 RX4 (some .boolean)) (E : gEL D k s) {r1 : Int32} (S : St) (x2 : Int32) : ∀ (n : Nat) (x3 : Int32), fX4_isBelow_7 S x2 n x3 = some r1 → ∀ (H : Heap) (locs : List Loc) (ls : Array Slot), gW D ((SN k r tf tq nt) S) ((SN k r tf tq nt) S) s H locs → lv_has ls 4 [(0, .ref (r 0)), (2, .int x2), (3, .int x3)] → W p l e ({ frames := 0, cells := 0, slots := 0, locals := 0 } : Room) s m args below meth c H locs 0 0 (MQ below (gQi D (SN k r tf tq nt) S (fun (r : Int32) (u : St) => r = r1 ∧ u = S) s.heap.size) args s 0 0 (va_A ((SN k r tf tq nt) S) s.heap.size)) (F0 m 7 ls []) := by
  intro n
  induction n with
  | zero => intro x3 hf; rw [fX4_isBelow_7] at hf; cases hf
  | succ n ih =>
    intro x3 hf H locs ls hw hl
    rw [fX4_isBelow_7] at hf
    refine lv_iload_n C.1 C.2.1 dX4_isBelow_7 rfl (lv_at hl 2 rfl) ?_
    refine lv_if_lt (tgt := 28) C.1 C.2.1 dX4_isBelow_8 (by decide) (fun hc => ?_) (fun hc => ?_)
    · have hf := ift hc hf
      refine lv_iconst (v := 0) C.1 C.2.1 dX4_isBelow_28 (by decide) ?_
      exact g_zret C hw (Nat.le_of_ble_eq_true rfl) (Nat.le_of_ble_eq_true rfl) (Or.inl rfl) ⟨Option.some.inj hf, rfl⟩ dX4_isBelow_29
    · have hf := iff_ hc hf
      refine lv_iload_n C.1 C.2.1 dX4_isBelow_11 rfl (lv_at hl 2 rfl) ?_
      refine lv_iload_n C.1 C.2.1 dX4_isBelow_12 rfl (lv_at hl 1 rfl) ?_
      refine lv_icmp_ne (tgt := 18) C.1 C.2.1 dX4_isBelow_13 (by decide) (fun hc => ?_) (fun hc => ?_)
      · have hf := iff_ hc hf
        refine lv_aload_n C.1 C.2.1 dX4_isBelow_18 rfl (lv_at hl 0 rfl) ?_
        refine s_get C E hw 4 (by decide) kf_X4_7 rfl dX4_isBelow_19 ?_
        refine lv_iload_n C.1 C.2.1 dX4_isBelow_22 rfl (lv_at hl 2 rfl) ?_
        obtain ⟨v_2, hv_2, hf⟩ := bnd hf
        refine s_ald C E hw 1 (by decide) rfl hv_2 dX4_isBelow_23 ?_
        refine lv_istore_n (lv' := [(3, .int v_2), (0, .ref (r 0)), (2, .int x2)]) C.1 C.2.1 dX4_isBelow_24 rfl hl (by decide) rfl (fun ls hl => ?_)
        refine lv_goto (tgt := 7) C.1 C.2.1 dX4_isBelow_25 (by decide) ?_
        exact ih v_2 hf _ _ _ hw (lv_sub hl [1, 2, 0] rfl)
      · have hf := ift hc hf
        refine lv_iconst (v := 1) C.1 C.2.1 dX4_isBelow_16 (by decide) ?_
        exact g_zret C hw (Nat.le_of_ble_eq_true rfl) (Nat.le_of_ble_eq_true rfl) (Or.inr rfl) ⟨Option.some.inj hf, rfl⟩ dX4_isBelow_17
def fX4_isBelow (S : St) (x1 : Int32) (x2 : Int32) : Option Int32 :=
  Option.bind (ld S 1 16 x1) fun v_1 =>
  fX4_isBelow_7 S x2 100 v_1
set_option maxHeartbeats 4000000 in
set_option maxRecDepth 100000 in
theorem ctX4_isBelow (l : Launch) {D : va_G} {k : Nat → ClassId} {r : Nat → Nat} {tf : Nat → Option Nat} {tq : Nat → Nat} {nt : Nat} (S : St) (x1 : Int32) (x2 : Int32) (sz : Nat) {r1 : Int32} (hf : fX4_isBelow S x1 x2 = some r1) : Met l yX4_isBelow (Cond.code yX4_isBelow cX4_isBelow 4 (some .boolean) :: XALL) ({ frames := 0, cells := 0, slots := 0, locals := 0 } : Room) (va_Pc [.ref (r 0), .int x1, .int x2] (gPreL D k ((SN k r tf tq nt) S) sz)) (gQi D (SN k r tf tq nt) S (fun (r : Int32) (u : St) => r = r1 ∧ u = S) sz) 0 0 (va_A ((SN k r tf tq nt) S) sz) := by
  unfold fX4_isBelow at hf
  refine Met.ofW (cc := cX4_isBelow) (maxL := 4) (ret := (some .boolean)) (by decide) rfl ?_
  intro p e s m args below meth c s₁ B hml hv
  obtain ⟨rfl, hg⟩ := hv
  have C : Ctx p s m _ meth c cX4_isBelow 4 RX4 (some .boolean) := Ctx.of B hml rfl
  obtain ⟨E, hw, hsz⟩ := gL_start hg
  subst hsz
  have hl := lv_entry ([.ref (r 0), .int x1, .int x2]) (n := 4) (Nat.le_of_ble_eq_true rfl)
  rw [lg_entry_eq]
  generalize (lg_sl ([.ref (r 0), .int x1, .int x2]) ++ List.replicate (4 - (lg_sl ([.ref (r 0), .int x1, .int x2])).length) Slot.unset).toArray = ls at hl ⊢
  have hl : lv_has ls 4 [(0, .ref (r 0)), (1, .int x1), (2, .int x2)] := hl
  refine lv_aload_n C.1 C.2.1 dX4_isBelow_0 rfl (lv_at hl 0 rfl) ?_
  refine s_get C E hw 4 (by decide) kf_X4_7 rfl dX4_isBelow_1 ?_
  refine lv_iload_n C.1 C.2.1 dX4_isBelow_4 rfl (lv_at hl 1 rfl) ?_
  obtain ⟨v_1, hv_1, hf⟩ := bnd hf
  refine s_ald C E hw 1 (by decide) rfl hv_1 dX4_isBelow_5 ?_
  refine lv_istore_n (lv' := [(3, .int v_1), (0, .ref (r 0)), (1, .int x1), (2, .int x2)]) C.1 C.2.1 dX4_isBelow_6 rfl hl (by decide) rfl (fun ls hl => ?_)
  exact wX4_isBelow_7 C E S x2 100 v_1 hf _ _ _ hw (lv_sub hl [1, 3, 0] rfl)
theorem F_X4_hasTag : FctV yX4_hasTag cX4_hasTag 4 (some .boolean) 2 := ⟨⟨kc_yX4_hasTag, kz_X4, by decide +kernel, by decide +kernel, by decide +kernel⟩, ki_yX4_hasTag, ks_yX4_hasTag⟩
def fX4_hasTag_2 (S : St) (x1 : Int32) (x2 : Int32) : Nat → Int32 → Option Int32
  | 0, _ => none
  | n + 1, x3 =>
    if (S 34 0) ≤ x3 then
      some 0
    else
      Option.bind (ix 24 x1) fun j_1 =>
      Option.bind (ldO S j_1 x3) fun v_2 =>
      if v_2 = 0 then
        Option.bind (some (x3 + 1)) fun x3_3 =>
        fX4_hasTag_2 S x1 x2 n x3_3
      else
        if x3 = x2 then
          some 1
        else
          Option.bind (fX4_isBelow S x3 x2) fun v_4 =>
          if v_4 = 0 then
            Option.bind (some (x3 + 1)) fun x3_5 =>
            fX4_hasTag_2 S x1 x2 n x3_5
          else
            some 1
set_option maxHeartbeats 4000000 in
set_option maxRecDepth 100000 in
theorem wX4_hasTag_2 {p : Program} {l : Launch} {e : Env} {s : State} {m : MethodId} {args : Array Value} {below : List Frame} {meth : Method} {c : Code} {D : va_G} {k : Nat → ClassId} {r : Nat → Nat} {tf : Nat → Option Nat} {tq : Nat → Nat} {nt : Nat} (C : Ctx p s m args meth c cX4_hasTag 4 RX4 (some .boolean)) (E : gEL D k s) {r1 : Int32} (S : St) (x1 : Int32) (x2 : Int32) : ∀ (n : Nat) (x3 : Int32), fX4_hasTag_2 S x1 x2 n x3 = some r1 → ∀ (H : Heap) (locs : List Loc) (ls : Array Slot), gW D ((SN k r tf tq nt) S) ((SN k r tf tq nt) S) s H locs → lv_has ls 4 [(0, .ref (r 0)), (1, .int x1), (2, .int x2), (3, .int x3)] → W p l e ({ frames := 1, cells := 0, slots := 0, locals := 23 } : Room) s m args below meth c H locs 0 0 (MQ below (gQi D (SN k r tf tq nt) S (fun (r : Int32) (u : St) => r = r1 ∧ u = S) s.heap.size) args s 0 0 (va_A ((SN k r tf tq nt) S) s.heap.size)) (F0 m 2 ls []) := by
  intro n
  induction n with
  | zero => intro x3 hf; rw [fX4_hasTag_2] at hf; cases hf
  | succ n ih =>
    intro x3 hf H locs ls hw hl
    rw [fX4_hasTag_2] at hf
    refine lv_iload_n C.1 C.2.1 dX4_hasTag_2 rfl (lv_at hl 3 rfl) ?_
    refine lv_aload_n C.1 C.2.1 dX4_hasTag_3 rfl (lv_at hl 0 rfl) ?_
    refine s_get C E hw 0 (by decide) kf_X4_29 rfl dX4_hasTag_4 ?_
    refine lv_icmp_ge (tgt := 43) C.1 C.2.1 dX4_hasTag_7 (by decide) (fun hc => ?_) (fun hc => ?_)
    · have hf := ift hc hf
      refine lv_iconst (v := 0) C.1 C.2.1 dX4_hasTag_43 (by decide) ?_
      exact g_zret C hw (Nat.le_of_ble_eq_true rfl) (Nat.le_of_ble_eq_true rfl) (Or.inl rfl) ⟨Option.some.inj hf, rfl⟩ dX4_hasTag_44
    · have hf := iff_ hc hf
      refine lv_aload_n C.1 C.2.1 dX4_hasTag_10 rfl (lv_at hl 0 rfl) ?_
      refine s_get C E hw 5 (by decide) kf_X4_15 rfl dX4_hasTag_11 ?_
      refine lv_iload_n C.1 C.2.1 dX4_hasTag_14 rfl (lv_at hl 1 rfl) ?_
      obtain ⟨j_1, hj_1, hf⟩ := bnd hf
      refine s_aaO C E hw hj_1 dX4_hasTag_15 ?_
      refine lv_iload_n C.1 C.2.1 dX4_hasTag_16 rfl (lv_at hl 3 rfl) ?_
      obtain ⟨v_2, hv_2, hf⟩ := bnd hf
      refine s_zald C E hw hv_2 dX4_hasTag_17 ?_
      refine lv_if_eq (tgt := 37) C.1 C.2.1 dX4_hasTag_18 (by decide) (fun hc => ?_) (fun hc => ?_)
      · have hf := ift hc hf
        obtain ⟨x3_3, hx3_3, hf⟩ := bnd hf
        refine lv_iinc (v := x3_3) (lv' := [(3, .int x3_3), (0, .ref (r 0)), (1, .int x1), (2, .int x2)]) C.1 C.2.1 dX4_hasTag_37 hl (k := 3) rfl (inc1 hx3_3) (by decide) rfl (fun ls hl => ?_)
        refine lv_goto (tgt := 2) C.1 C.2.1 dX4_hasTag_40 (by decide) ?_
        exact ih x3_3 hf _ _ _ hw (lv_sub hl [1, 2, 3, 0] rfl)
      · have hf := iff_ hc hf
        refine lv_iload_n C.1 C.2.1 dX4_hasTag_21 rfl (lv_at hl 3 rfl) ?_
        refine lv_iload_n C.1 C.2.1 dX4_hasTag_22 rfl (lv_at hl 2 rfl) ?_
        refine lv_icmp_eq (tgt := 35) C.1 C.2.1 dX4_hasTag_23 (by decide) (fun hc => ?_) (fun hc => ?_)
        · have hf := ift hc hf
          refine lv_iconst (v := 1) C.1 C.2.1 dX4_hasTag_35 (by decide) ?_
          exact g_zret C hw (Nat.le_of_ble_eq_true rfl) (Nat.le_of_ble_eq_true rfl) (Or.inr rfl) ⟨Option.some.inj hf, rfl⟩ dX4_hasTag_36
        · have hf := iff_ hc hf
          refine lv_aload_n C.1 C.2.1 dX4_hasTag_26 rfl (lv_at hl 0 rfl) ?_
          refine lv_iload_n C.1 C.2.1 dX4_hasTag_27 rfl (lv_at hl 3 rfl) ?_
          refine lv_iload_n C.1 C.2.1 dX4_hasTag_28 rfl (lv_at hl 2 rfl) ?_
          obtain ⟨v_4, hv_4, hf⟩ := bnd hf
          refine g_cie (wf := (SN k r tf tq nt)) (S := S) (rest := []) SN_adr hw (g_runVL (rm := ({ frames := 0, cells := 0, slots := 0, locals := 0 } : Room)) (As := [.int x3, .int x2]) (rest := []) C E hw F_X4_isBelow (ctX4_isBelow l (k := k) (D := D) (r := r) (tf := tf) (tq := tq) (nt := nt) S x3 x2 _ hv_4) km_X4_33 0 SN_0 rfl rfl hl.1 rfl (Nat.le_of_ble_eq_true rfl) ⟨(Nat.le_of_ble_eq_true rfl), (Nat.le_of_ble_eq_true rfl)⟩ ⟨(Nat.le_of_ble_eq_true rfl), (Nat.le_of_ble_eq_true rfl)⟩ dX4_hasTag_29) (fun H locs hw => ?_)
          refine lv_if_eq (tgt := 37) C.1 C.2.1 dX4_hasTag_32 (by decide) (fun hc => ?_) (fun hc => ?_)
          · have hf := ift hc hf
            obtain ⟨x3_5, hx3_5, hf⟩ := bnd hf
            refine lv_iinc (v := x3_5) (lv' := [(3, .int x3_5), (0, .ref (r 0)), (1, .int x1), (2, .int x2)]) C.1 C.2.1 dX4_hasTag_37 hl (k := 3) rfl (inc1 hx3_5) (by decide) rfl (fun ls hl => ?_)
            refine lv_goto (tgt := 2) C.1 C.2.1 dX4_hasTag_40 (by decide) ?_
            exact ih x3_5 hf _ _ _ hw (lv_sub hl [1, 2, 3, 0] rfl)
          · have hf := iff_ hc hf
            refine lv_iconst (v := 1) C.1 C.2.1 dX4_hasTag_35 (by decide) ?_
            exact g_zret C hw (Nat.le_of_ble_eq_true rfl) (Nat.le_of_ble_eq_true rfl) (Or.inr rfl) ⟨Option.some.inj hf, rfl⟩ dX4_hasTag_36
def fX4_hasTag (S : St) (x1 : Int32) (x2 : Int32) : Option Int32 :=
  fX4_hasTag_2 S x1 x2 100 0
set_option maxHeartbeats 4000000 in
set_option maxRecDepth 100000 in
theorem ctX4_hasTag (l : Launch) {D : va_G} {k : Nat → ClassId} {r : Nat → Nat} {tf : Nat → Option Nat} {tq : Nat → Nat} {nt : Nat} (S : St) (x1 : Int32) (x2 : Int32) (sz : Nat) {r1 : Int32} (hf : fX4_hasTag S x1 x2 = some r1) : Met l yX4_hasTag (Cond.code yX4_hasTag cX4_hasTag 4 (some .boolean) :: XALL) ({ frames := 1, cells := 0, slots := 0, locals := 23 } : Room) (va_Pc [.ref (r 0), .int x1, .int x2] (gPreL D k ((SN k r tf tq nt) S) sz)) (gQi D (SN k r tf tq nt) S (fun (r : Int32) (u : St) => r = r1 ∧ u = S) sz) 0 0 (va_A ((SN k r tf tq nt) S) sz) := by
  unfold fX4_hasTag at hf
  refine Met.ofW (cc := cX4_hasTag) (maxL := 4) (ret := (some .boolean)) (by decide) rfl ?_
  intro p e s m args below meth c s₁ B hml hv
  obtain ⟨rfl, hg⟩ := hv
  have C : Ctx p s m _ meth c cX4_hasTag 4 RX4 (some .boolean) := Ctx.of B hml rfl
  obtain ⟨E, hw, hsz⟩ := gL_start hg
  subst hsz
  have hl := lv_entry ([.ref (r 0), .int x1, .int x2]) (n := 4) (Nat.le_of_ble_eq_true rfl)
  rw [lg_entry_eq]
  generalize (lg_sl ([.ref (r 0), .int x1, .int x2]) ++ List.replicate (4 - (lg_sl ([.ref (r 0), .int x1, .int x2])).length) Slot.unset).toArray = ls at hl ⊢
  have hl : lv_has ls 4 [(0, .ref (r 0)), (1, .int x1), (2, .int x2)] := hl
  refine lv_iconst (v := 0) C.1 C.2.1 dX4_hasTag_0 (by decide) ?_
  refine lv_istore_n (lv' := [(3, .int 0), (0, .ref (r 0)), (1, .int x1), (2, .int x2)]) C.1 C.2.1 dX4_hasTag_1 rfl hl (by decide) rfl (fun ls hl => ?_)
  exact wX4_hasTag_2 C E S x1 x2 100 0 hf _ _ _ hw (lv_sub hl [1, 2, 3, 0] rfl)
theorem F_X4_ownTags : FctV yX4_ownTags cX4_ownTags 7 (some .int) 1 := ⟨⟨kc_yX4_ownTags, kz_X4, by decide +kernel, by decide +kernel, by decide +kernel⟩, ki_yX4_ownTags, ks_yX4_ownTags⟩
def fX4_ownTags_40 (S : St) (x4 : Int32) (j3 : Nat) (k16 : Int32 → Int32 → Option Int32) (x5 : Int32) (t0 : Int32) (t1 : Int32) : Option Int32 :=
  Option.bind (some ((t0 + t1))) fun x2_3 =>
  Option.bind (some (x5 + 1)) fun x5_4 =>
  k16 x2_3 x5_4
set_option maxHeartbeats 4000000 in
set_option maxRecDepth 100000 in
theorem wX4_ownTags_40 {p : Program} {l : Launch} {e : Env} {s : State} {m : MethodId} {args : Array Value} {below : List Frame} {meth : Method} {c : Code} {D : va_G} {k : Nat → ClassId} {r : Nat → Nat} {tf : Nat → Option Nat} {tq : Nat → Nat} {nt : Nat} (C : Ctx p s m args meth c cX4_ownTags 7 RX4 (some .int)) (E : gEL D k s) {r1 : Int32} (S : St) (x4 : Int32) (j3 : Nat) (k16 : Int32 → Int32 → Option Int32) (hk16 : ∀ (x2 : Int32) (x5 : Int32), k16 x2 x5 = some r1 → ∀ (H : Heap) (locs : List Loc) (ls : Array Slot), gW D ((SN k r tf tq nt) S) ((SN k r tf tq nt) S) s H locs → lv_has ls 7 [(2, .int x2), (3, .ref (r (6 + j3))), (4, .int x4), (5, .int x5)] → W p l e ({ frames := 0, cells := 0, slots := 0, locals := 0 } : Room) s m args below meth c H locs 0 0 (MQ below (gQi D (SN k r tf tq nt) S (fun (r : Int32) (u : St) => r = r1 ∧ u = S) s.heap.size) args s 0 0 (va_A ((SN k r tf tq nt) S) s.heap.size)) (F0 m 16 ls [])) : ∀ (x5 : Int32) (t0 : Int32) (t1 : Int32), fX4_ownTags_40 S x4 j3 k16 x5 t0 t1 = some r1 → ∀ (H : Heap) (locs : List Loc) (ls : Array Slot), gW D ((SN k r tf tq nt) S) ((SN k r tf tq nt) S) s H locs → lv_has ls 7 [(3, .ref (r (6 + j3))), (4, .int x4), (5, .int x5)] → W p l e ({ frames := 0, cells := 0, slots := 0, locals := 0 } : Room) s m args below meth c H locs 0 0 (MQ below (gQi D (SN k r tf tq nt) S (fun (r : Int32) (u : St) => r = r1 ∧ u = S) s.heap.size) args s 0 0 (va_A ((SN k r tf tq nt) S) s.heap.size)) (F0 m 40 ls [.int t1, .int t0]) := by
  intro x5 t0 t1 hf H locs ls hw hl
  unfold fX4_ownTags_40 at hf
  refine lv_iadd C.1 C.2.1 dX4_ownTags_40 ?_
  obtain ⟨x2_3, hx2_3, hf⟩ := bnd hf
  refine topi_b hx2_3 ?_
  refine lv_istore_n (lv' := [(2, .int x2_3), (3, .ref (r (6 + j3))), (4, .int x4), (5, .int x5)]) C.1 C.2.1 dX4_ownTags_41 rfl hl (by decide) rfl (fun ls hl => ?_)
  obtain ⟨x5_4, hx5_4, hf⟩ := bnd hf
  refine lv_iinc (v := x5_4) (lv' := [(5, .int x5_4), (2, .int x2_3), (3, .ref (r (6 + j3))), (4, .int x4)]) C.1 C.2.1 dX4_ownTags_42 hl (k := 3) rfl (inc1 hx5_4) (by decide) rfl (fun ls hl => ?_)
  refine lv_goto (tgt := 16) C.1 C.2.1 dX4_ownTags_45 (by decide) ?_
  exact hk16 x2_3 x5_4 hf _ _ _ hw (lv_sub hl [1, 2, 3, 0] rfl)
def fX4_ownTags_16 (S : St) (x4 : Int32) (j3 : Nat) : Nat → Int32 → Int32 → Option Int32
  | 0, _, _ => none
  | n + 1, x2, x5 =>
    if x4 ≤ x5 then
      some x2
    else
      Option.bind (ldO S j3 x5) fun v_2 =>
      if v_2 = 0 then
        fX4_ownTags_40 S x4 j3 (fX4_ownTags_16 S x4 j3 n) x5 x2 0
      else
        fX4_ownTags_40 S x4 j3 (fX4_ownTags_16 S x4 j3 n) x5 x2 1
set_option maxHeartbeats 4000000 in
set_option maxRecDepth 100000 in
theorem wX4_ownTags_16 {p : Program} {l : Launch} {e : Env} {s : State} {m : MethodId} {args : Array Value} {below : List Frame} {meth : Method} {c : Code} {D : va_G} {k : Nat → ClassId} {r : Nat → Nat} {tf : Nat → Option Nat} {tq : Nat → Nat} {nt : Nat} (C : Ctx p s m args meth c cX4_ownTags 7 RX4 (some .int)) (E : gEL D k s) {r1 : Int32} (S : St) (x4 : Int32) (j3 : Nat) : ∀ (n : Nat) (x2 : Int32) (x5 : Int32), fX4_ownTags_16 S x4 j3 n x2 x5 = some r1 → ∀ (H : Heap) (locs : List Loc) (ls : Array Slot), gW D ((SN k r tf tq nt) S) ((SN k r tf tq nt) S) s H locs → lv_has ls 7 [(2, .int x2), (3, .ref (r (6 + j3))), (4, .int x4), (5, .int x5)] → W p l e ({ frames := 0, cells := 0, slots := 0, locals := 0 } : Room) s m args below meth c H locs 0 0 (MQ below (gQi D (SN k r tf tq nt) S (fun (r : Int32) (u : St) => r = r1 ∧ u = S) s.heap.size) args s 0 0 (va_A ((SN k r tf tq nt) S) s.heap.size)) (F0 m 16 ls []) := by
  intro n
  induction n with
  | zero => intro x2 x5 hf; rw [fX4_ownTags_16] at hf; cases hf
  | succ n ih =>
    intro x2 x5 hf H locs ls hw hl
    rw [fX4_ownTags_16] at hf
    refine lv_iload C.1 C.2.1 dX4_ownTags_16 (lv_at hl 3 rfl) ?_
    refine lv_iload C.1 C.2.1 dX4_ownTags_18 (lv_at hl 2 rfl) ?_
    refine lv_icmp_ge (tgt := 48) C.1 C.2.1 dX4_ownTags_20 (by decide) (fun hc => ?_) (fun hc => ?_)
    · have hf := ift hc hf
      refine lv_iload_n C.1 C.2.1 dX4_ownTags_48 rfl (lv_at hl 0 rfl) ?_
      exact g_iret C hw (Nat.le_of_ble_eq_true rfl) (Nat.le_of_ble_eq_true rfl) ⟨Option.some.inj hf, rfl⟩ dX4_ownTags_49
    · have hf := iff_ hc hf
      refine lv_aload_n C.1 C.2.1 dX4_ownTags_23 rfl (lv_at hl 1 rfl) ?_
      refine lv_iload C.1 C.2.1 dX4_ownTags_24 (lv_at hl 3 rfl) ?_
      obtain ⟨v_2, hv_2, hf⟩ := bnd hf
      refine s_zald C E hw hv_2 dX4_ownTags_26 ?_
      refine lv_istore (lv' := [(6, .int v_2), (2, .int x2), (3, .ref (r (6 + j3))), (4, .int x4), (5, .int x5)]) C.1 C.2.1 dX4_ownTags_27 hl (by decide) rfl (fun ls hl => ?_)
      refine lv_iload_n C.1 C.2.1 dX4_ownTags_29 rfl (lv_at hl 1 rfl) ?_
      refine lv_iload C.1 C.2.1 dX4_ownTags_30 (lv_at hl 0 rfl) ?_
      refine lv_if_eq (tgt := 39) C.1 C.2.1 dX4_ownTags_32 (by decide) (fun hc => ?_) (fun hc => ?_)
      · have hf := ift hc hf
        refine lv_iconst (v := 0) C.1 C.2.1 dX4_ownTags_39 (by decide) ?_
        exact wX4_ownTags_40 C E S x4 j3 (fX4_ownTags_16 S x4 j3 n) ih x5 x2 0 hf _ _ _ hw (lv_sub hl [2, 3, 4] rfl)
      · have hf := iff_ hc hf
        refine lv_iconst (v := 1) C.1 C.2.1 dX4_ownTags_35 (by decide) ?_
        refine lv_goto (tgt := 40) C.1 C.2.1 dX4_ownTags_36 (by decide) ?_
        exact wX4_ownTags_40 C E S x4 j3 (fX4_ownTags_16 S x4 j3 n) ih x5 x2 1 hf _ _ _ hw (lv_sub hl [2, 3, 4] rfl)
def fX4_ownTags (S : St) (x1 : Int32) : Option Int32 :=
  Option.bind (ix 24 x1) fun j_1 =>
  fX4_ownTags_16 S 16 j_1 100 0 0
set_option maxHeartbeats 4000000 in
set_option maxRecDepth 100000 in
theorem ctX4_ownTags (l : Launch) {D : va_G} {k : Nat → ClassId} {r : Nat → Nat} {tf : Nat → Option Nat} {tq : Nat → Nat} {nt : Nat} (S : St) (x1 : Int32) (sz : Nat) {r1 : Int32} (hf : fX4_ownTags S x1 = some r1) : Met l yX4_ownTags (Cond.code yX4_ownTags cX4_ownTags 7 (some .int) :: XALL) ({ frames := 0, cells := 0, slots := 0, locals := 0 } : Room) (va_Pc [.ref (r 0), .int x1] (gPreL D k ((SN k r tf tq nt) S) sz)) (gQi D (SN k r tf tq nt) S (fun (r : Int32) (u : St) => r = r1 ∧ u = S) sz) 0 0 (va_A ((SN k r tf tq nt) S) sz) := by
  unfold fX4_ownTags at hf
  refine Met.ofW (cc := cX4_ownTags) (maxL := 7) (ret := (some .int)) (by decide) rfl ?_
  intro p e s m args below meth c s₁ B hml hv
  obtain ⟨rfl, hg⟩ := hv
  have C : Ctx p s m _ meth c cX4_ownTags 7 RX4 (some .int) := Ctx.of B hml rfl
  obtain ⟨E, hw, hsz⟩ := gL_start hg
  subst hsz
  have hl := lv_entry ([.ref (r 0), .int x1]) (n := 7) (Nat.le_of_ble_eq_true rfl)
  rw [lg_entry_eq]
  generalize (lg_sl ([.ref (r 0), .int x1]) ++ List.replicate (7 - (lg_sl ([.ref (r 0), .int x1])).length) Slot.unset).toArray = ls at hl ⊢
  have hl : lv_has ls 7 [(0, .ref (r 0)), (1, .int x1)] := hl
  refine lv_iconst (v := 0) C.1 C.2.1 dX4_ownTags_0 (by decide) ?_
  refine lv_istore_n (lv' := [(2, .int 0), (0, .ref (r 0)), (1, .int x1)]) C.1 C.2.1 dX4_ownTags_1 rfl hl (by decide) rfl (fun ls hl => ?_)
  refine lv_aload_n C.1 C.2.1 dX4_ownTags_2 rfl (lv_at hl 1 rfl) ?_
  refine s_get C E hw 5 (by decide) kf_X4_15 rfl dX4_ownTags_3 ?_
  refine lv_iload_n C.1 C.2.1 dX4_ownTags_6 rfl (lv_at hl 2 rfl) ?_
  obtain ⟨j_1, hj_1, hf⟩ := bnd hf
  refine s_aaO C E hw hj_1 dX4_ownTags_7 ?_
  refine lv_astore_n (lv' := [(3, .ref (r (6 + j_1))), (2, .int 0), (0, .ref (r 0)), (1, .int x1)]) C.1 C.2.1 dX4_ownTags_8 rfl hl (by decide) rfl (fun ls hl => ?_)
  refine lv_aload_n C.1 C.2.1 dX4_ownTags_9 rfl (lv_at hl 0 rfl) ?_
  refine s_alen C E hw (ix_some hj_1).2.2 dX4_ownTags_10 ?_
  refine lv_istore (lv' := [(4, .int 16), (3, .ref (r (6 + j_1))), (2, .int 0), (0, .ref (r 0)), (1, .int x1)]) C.1 C.2.1 dX4_ownTags_11 hl (by decide) rfl (fun ls hl => ?_)
  refine lv_iconst (v := 0) C.1 C.2.1 dX4_ownTags_13 (by decide) ?_
  refine lv_istore (lv' := [(5, .int 0), (4, .int 16), (3, .ref (r (6 + j_1))), (2, .int 0), (0, .ref (r 0)), (1, .int x1)]) C.1 C.2.1 dX4_ownTags_14 hl (by decide) rfl (fun ls hl => ?_)
  exact wX4_ownTags_16 C E S 16 j_1 100 0 0 hf _ _ _ hw (lv_sub hl [3, 2, 1, 0] rfl)
theorem F_X4_later : FctV yX4_later cX4_later 4 (some .int) 2 := ⟨⟨kc_yX4_later, kz_X4, by decide +kernel, by decide +kernel, by decide +kernel⟩, ki_yX4_later, ks_yX4_later⟩
def fX4_later_19 (S : St) (x1 : Int32) (x2 : Int32) : Nat → Int32 → Option Int32
  | 0, _ => none
  | n + 1, x3 =>
    if (S 34 0) ≤ x3 then
      Option.bind (ld S 3 24 x1) fun v_2 =>
      if v_2 ≤ x2 then
        some 0
      else
        Option.bind (ld S 3 24 x1) fun v_3 =>
        some (v_3 - x2)
    else
      Option.bind (ix 24 x1) fun j_4 =>
      Option.bind (ldO S j_4 x3) fun v_5 =>
      if v_5 = 0 then
        Option.bind (some (x3 + 1)) fun x3_6 =>
        fX4_later_19 S x1 x2 n x3_6
      else
        Option.bind (ix 24 ((S 35 0) - 1)) fun j_7 =>
        Option.bind (ldO S j_7 x3) fun v_8 =>
        if v_8 = 0 then
          Option.bind (some (x3 + 1)) fun x3_9 =>
          fX4_later_19 S x1 x2 n x3_9
        else
          Option.bind (ld S 3 24 x1) fun v_10 =>
          some v_10
set_option maxHeartbeats 4000000 in
set_option maxRecDepth 100000 in
theorem wX4_later_19 {p : Program} {l : Launch} {e : Env} {s : State} {m : MethodId} {args : Array Value} {below : List Frame} {meth : Method} {c : Code} {D : va_G} {k : Nat → ClassId} {r : Nat → Nat} {tf : Nat → Option Nat} {tq : Nat → Nat} {nt : Nat} (C : Ctx p s m args meth c cX4_later 4 RX4 (some .int)) (E : gEL D k s) {r1 : Int32} (S : St) (x1 : Int32) (x2 : Int32) : ∀ (n : Nat) (x3 : Int32), fX4_later_19 S x1 x2 n x3 = some r1 → ∀ (H : Heap) (locs : List Loc) (ls : Array Slot), gW D ((SN k r tf tq nt) S) ((SN k r tf tq nt) S) s H locs → lv_has ls 4 [(0, .ref (r 0)), (1, .int x1), (2, .int x2), (3, .int x3)] → W p l e ({ frames := 0, cells := 0, slots := 0, locals := 0 } : Room) s m args below meth c H locs 0 0 (MQ below (gQi D (SN k r tf tq nt) S (fun (r : Int32) (u : St) => r = r1 ∧ u = S) s.heap.size) args s 0 0 (va_A ((SN k r tf tq nt) S) s.heap.size)) (F0 m 19 ls []) := by
  intro n
  induction n with
  | zero => intro x3 hf; rw [fX4_later_19] at hf; cases hf
  | succ n ih =>
    intro x3 hf H locs ls hw hl
    rw [fX4_later_19] at hf
    refine lv_iload_n C.1 C.2.1 dX4_later_19 rfl (lv_at hl 3 rfl) ?_
    refine lv_aload_n C.1 C.2.1 dX4_later_20 rfl (lv_at hl 0 rfl) ?_
    refine s_get C E hw 0 (by decide) kf_X4_29 rfl dX4_later_21 ?_
    refine lv_icmp_ge (tgt := 67) C.1 C.2.1 dX4_later_24 (by decide) (fun hc => ?_) (fun hc => ?_)
    · have hf := ift hc hf
      refine lv_aload_n C.1 C.2.1 dX4_later_67 rfl (lv_at hl 0 rfl) ?_
      refine s_get C E hw 6 (by decide) kf_X4_18 rfl dX4_later_68 ?_
      refine lv_iload_n C.1 C.2.1 dX4_later_71 rfl (lv_at hl 1 rfl) ?_
      obtain ⟨v_2, hv_2, hf⟩ := bnd hf
      refine s_ald C E hw 3 (by decide) rfl hv_2 dX4_later_72 ?_
      refine lv_iload_n C.1 C.2.1 dX4_later_73 rfl (lv_at hl 2 rfl) ?_
      refine lv_icmp_le (tgt := 88) C.1 C.2.1 dX4_later_74 (by decide) (fun hc => ?_) (fun hc => ?_)
      · have hf := ift hc hf
        refine lv_iconst (v := 0) C.1 C.2.1 dX4_later_88 (by decide) ?_
        exact g_iret C hw (Nat.le_of_ble_eq_true rfl) (Nat.le_of_ble_eq_true rfl) ⟨Option.some.inj hf, rfl⟩ dX4_later_89
      · have hf := iff_ hc hf
        refine lv_aload_n C.1 C.2.1 dX4_later_77 rfl (lv_at hl 0 rfl) ?_
        refine s_get C E hw 6 (by decide) kf_X4_18 rfl dX4_later_78 ?_
        refine lv_iload_n C.1 C.2.1 dX4_later_81 rfl (lv_at hl 1 rfl) ?_
        obtain ⟨v_3, hv_3, hf⟩ := bnd hf
        refine s_ald C E hw 3 (by decide) rfl hv_3 dX4_later_82 ?_
        refine lv_iload_n C.1 C.2.1 dX4_later_83 rfl (lv_at hl 2 rfl) ?_
        refine lv_isub C.1 C.2.1 dX4_later_84 ?_
        refine lv_goto (tgt := 89) C.1 C.2.1 dX4_later_85 (by decide) ?_
        exact g_iret C hw (Nat.le_of_ble_eq_true rfl) (Nat.le_of_ble_eq_true rfl) ⟨Option.some.inj hf, rfl⟩ dX4_later_89
    · have hf := iff_ hc hf
      refine lv_aload_n C.1 C.2.1 dX4_later_27 rfl (lv_at hl 0 rfl) ?_
      refine s_get C E hw 5 (by decide) kf_X4_15 rfl dX4_later_28 ?_
      refine lv_iload_n C.1 C.2.1 dX4_later_31 rfl (lv_at hl 1 rfl) ?_
      obtain ⟨j_4, hj_4, hf⟩ := bnd hf
      refine s_aaO C E hw hj_4 dX4_later_32 ?_
      refine lv_iload_n C.1 C.2.1 dX4_later_33 rfl (lv_at hl 3 rfl) ?_
      obtain ⟨v_5, hv_5, hf⟩ := bnd hf
      refine s_zald C E hw hv_5 dX4_later_34 ?_
      refine lv_if_eq (tgt := 61) C.1 C.2.1 dX4_later_35 (by decide) (fun hc => ?_) (fun hc => ?_)
      · have hf := ift hc hf
        obtain ⟨x3_6, hx3_6, hf⟩ := bnd hf
        refine lv_iinc (v := x3_6) (lv' := [(3, .int x3_6), (0, .ref (r 0)), (1, .int x1), (2, .int x2)]) C.1 C.2.1 dX4_later_61 hl (k := 3) rfl (inc1 hx3_6) (by decide) rfl (fun ls hl => ?_)
        refine lv_goto (tgt := 19) C.1 C.2.1 dX4_later_64 (by decide) ?_
        exact ih x3_6 hf _ _ _ hw (lv_sub hl [1, 2, 3, 0] rfl)
      · have hf := iff_ hc hf
        refine lv_aload_n C.1 C.2.1 dX4_later_38 rfl (lv_at hl 0 rfl) ?_
        refine s_get C E hw 5 (by decide) kf_X4_15 rfl dX4_later_39 ?_
        refine lv_aload_n C.1 C.2.1 dX4_later_42 rfl (lv_at hl 0 rfl) ?_
        refine s_get C E hw 1 (by decide) kf_X4_40 rfl dX4_later_43 ?_
        refine lv_iconst (v := 1) C.1 C.2.1 dX4_later_46 (by decide) ?_
        refine lv_isub C.1 C.2.1 dX4_later_47 ?_
        obtain ⟨j_7, hj_7, hf⟩ := bnd hf
        refine s_aaO C E hw hj_7 dX4_later_48 ?_
        refine lv_iload_n C.1 C.2.1 dX4_later_49 rfl (lv_at hl 3 rfl) ?_
        obtain ⟨v_8, hv_8, hf⟩ := bnd hf
        refine s_zald C E hw hv_8 dX4_later_50 ?_
        refine lv_if_eq (tgt := 61) C.1 C.2.1 dX4_later_51 (by decide) (fun hc => ?_) (fun hc => ?_)
        · have hf := ift hc hf
          obtain ⟨x3_9, hx3_9, hf⟩ := bnd hf
          refine lv_iinc (v := x3_9) (lv' := [(3, .int x3_9), (0, .ref (r 0)), (1, .int x1), (2, .int x2)]) C.1 C.2.1 dX4_later_61 hl (k := 3) rfl (inc1 hx3_9) (by decide) rfl (fun ls hl => ?_)
          refine lv_goto (tgt := 19) C.1 C.2.1 dX4_later_64 (by decide) ?_
          exact ih x3_9 hf _ _ _ hw (lv_sub hl [1, 2, 3, 0] rfl)
        · have hf := iff_ hc hf
          refine lv_aload_n C.1 C.2.1 dX4_later_54 rfl (lv_at hl 0 rfl) ?_
          refine s_get C E hw 6 (by decide) kf_X4_18 rfl dX4_later_55 ?_
          refine lv_iload_n C.1 C.2.1 dX4_later_58 rfl (lv_at hl 1 rfl) ?_
          obtain ⟨v_10, hv_10, hf⟩ := bnd hf
          refine s_ald C E hw 3 (by decide) rfl hv_10 dX4_later_59 ?_
          exact g_iret C hw (Nat.le_of_ble_eq_true rfl) (Nat.le_of_ble_eq_true rfl) ⟨Option.some.inj hf, rfl⟩ dX4_later_60
def fX4_later (S : St) (x1 : Int32) (x2 : Int32) : Option Int32 :=
  if x1 = ((S 35 0) - 1) then
    Option.bind (ld S 3 24 x1) fun v_1 =>
    some v_1
  else
    fX4_later_19 S x1 x2 100 0
set_option maxHeartbeats 4000000 in
set_option maxRecDepth 100000 in
theorem ctX4_later (l : Launch) {D : va_G} {k : Nat → ClassId} {r : Nat → Nat} {tf : Nat → Option Nat} {tq : Nat → Nat} {nt : Nat} (S : St) (x1 : Int32) (x2 : Int32) (sz : Nat) {r1 : Int32} (hf : fX4_later S x1 x2 = some r1) : Met l yX4_later (Cond.code yX4_later cX4_later 4 (some .int) :: XALL) ({ frames := 0, cells := 0, slots := 0, locals := 0 } : Room) (va_Pc [.ref (r 0), .int x1, .int x2] (gPreL D k ((SN k r tf tq nt) S) sz)) (gQi D (SN k r tf tq nt) S (fun (r : Int32) (u : St) => r = r1 ∧ u = S) sz) 0 0 (va_A ((SN k r tf tq nt) S) sz) := by
  unfold fX4_later at hf
  refine Met.ofW (cc := cX4_later) (maxL := 4) (ret := (some .int)) (by decide) rfl ?_
  intro p e s m args below meth c s₁ B hml hv
  obtain ⟨rfl, hg⟩ := hv
  have C : Ctx p s m _ meth c cX4_later 4 RX4 (some .int) := Ctx.of B hml rfl
  obtain ⟨E, hw, hsz⟩ := gL_start hg
  subst hsz
  have hl := lv_entry ([.ref (r 0), .int x1, .int x2]) (n := 4) (Nat.le_of_ble_eq_true rfl)
  rw [lg_entry_eq]
  generalize (lg_sl ([.ref (r 0), .int x1, .int x2]) ++ List.replicate (4 - (lg_sl ([.ref (r 0), .int x1, .int x2])).length) Slot.unset).toArray = ls at hl ⊢
  have hl : lv_has ls 4 [(0, .ref (r 0)), (1, .int x1), (2, .int x2)] := hl
  refine lv_iload_n C.1 C.2.1 dX4_later_0 rfl (lv_at hl 1 rfl) ?_
  refine lv_aload_n C.1 C.2.1 dX4_later_1 rfl (lv_at hl 0 rfl) ?_
  refine s_get C E hw 1 (by decide) kf_X4_40 rfl dX4_later_2 ?_
  refine lv_iconst (v := 1) C.1 C.2.1 dX4_later_5 (by decide) ?_
  refine lv_isub C.1 C.2.1 dX4_later_6 ?_
  refine lv_icmp_ne (tgt := 17) C.1 C.2.1 dX4_later_7 (by decide) (fun hc => ?_) (fun hc => ?_)
  · have hf := iff_ hc hf
    refine lv_iconst (v := 0) C.1 C.2.1 dX4_later_17 (by decide) ?_
    refine lv_istore_n (lv' := [(3, .int 0), (0, .ref (r 0)), (1, .int x1), (2, .int x2)]) C.1 C.2.1 dX4_later_18 rfl hl (by decide) rfl (fun ls hl => ?_)
    exact wX4_later_19 C E S x1 x2 100 0 hf _ _ _ hw (lv_sub hl [1, 2, 3, 0] rfl)
  · have hf := ift hc hf
    refine lv_aload_n C.1 C.2.1 dX4_later_10 rfl (lv_at hl 0 rfl) ?_
    refine s_get C E hw 6 (by decide) kf_X4_18 rfl dX4_later_11 ?_
    refine lv_iload_n C.1 C.2.1 dX4_later_14 rfl (lv_at hl 1 rfl) ?_
    obtain ⟨v_1, hv_1, hf⟩ := bnd hf
    refine s_ald C E hw 3 (by decide) rfl hv_1 dX4_later_15 ?_
    exact g_iret C hw (Nat.le_of_ble_eq_true rfl) (Nat.le_of_ble_eq_true rfl) ⟨Option.some.inj hf, rfl⟩ dX4_later_16
theorem F_X4_faded : FctV yX4_faded cX4_faded 4 (some .int) 1 := ⟨⟨kc_yX4_faded, kz_X4, by decide +kernel, by decide +kernel, by decide +kernel⟩, ki_yX4_faded, ks_yX4_faded⟩
def fX4_faded_27 (S : St) (x1 : Int32) (k4 : Int32 → Int32 → Option Int32) (x3 : Int32) (t0 : Int32) (t1 : Int32) : Option Int32 :=
  Option.bind (some ((t0 + t1))) fun x2_2 =>
  Option.bind (some (x3 + 1)) fun x3_3 =>
  k4 x2_2 x3_3
set_option maxHeartbeats 4000000 in
set_option maxRecDepth 100000 in
theorem wX4_faded_27 {p : Program} {l : Launch} {e : Env} {s : State} {m : MethodId} {args : Array Value} {below : List Frame} {meth : Method} {c : Code} {D : va_G} {k : Nat → ClassId} {r : Nat → Nat} {tf : Nat → Option Nat} {tq : Nat → Nat} {nt : Nat} (C : Ctx p s m args meth c cX4_faded 4 RX4 (some .int)) (E : gEL D k s) {r1 : Int32} (S : St) (x1 : Int32) (k4 : Int32 → Int32 → Option Int32) (hk4 : ∀ (x2 : Int32) (x3 : Int32), k4 x2 x3 = some r1 → ∀ (H : Heap) (locs : List Loc) (ls : Array Slot), gW D ((SN k r tf tq nt) S) ((SN k r tf tq nt) S) s H locs → lv_has ls 4 [(0, .ref (r 0)), (1, .int x1), (2, .int x2), (3, .int x3)] → W p l e ({ frames := 1, cells := 0, slots := 0, locals := 23 } : Room) s m args below meth c H locs 0 0 (MQ below (gQi D (SN k r tf tq nt) S (fun (r : Int32) (u : St) => r = r1 ∧ u = S) s.heap.size) args s 0 0 (va_A ((SN k r tf tq nt) S) s.heap.size)) (F0 m 4 ls [])) : ∀ (x3 : Int32) (t0 : Int32) (t1 : Int32), fX4_faded_27 S x1 k4 x3 t0 t1 = some r1 → ∀ (H : Heap) (locs : List Loc) (ls : Array Slot), gW D ((SN k r tf tq nt) S) ((SN k r tf tq nt) S) s H locs → lv_has ls 4 [(0, .ref (r 0)), (1, .int x1), (3, .int x3)] → W p l e ({ frames := 1, cells := 0, slots := 0, locals := 23 } : Room) s m args below meth c H locs 0 0 (MQ below (gQi D (SN k r tf tq nt) S (fun (r : Int32) (u : St) => r = r1 ∧ u = S) s.heap.size) args s 0 0 (va_A ((SN k r tf tq nt) S) s.heap.size)) (F0 m 27 ls [.int t1, .int t0]) := by
  intro x3 t0 t1 hf H locs ls hw hl
  unfold fX4_faded_27 at hf
  refine lv_iadd C.1 C.2.1 dX4_faded_27 ?_
  obtain ⟨x2_2, hx2_2, hf⟩ := bnd hf
  refine topi_b hx2_2 ?_
  refine lv_istore_n (lv' := [(2, .int x2_2), (0, .ref (r 0)), (1, .int x1), (3, .int x3)]) C.1 C.2.1 dX4_faded_28 rfl hl (by decide) rfl (fun ls hl => ?_)
  obtain ⟨x3_3, hx3_3, hf⟩ := bnd hf
  refine lv_iinc (v := x3_3) (lv' := [(3, .int x3_3), (2, .int x2_2), (0, .ref (r 0)), (1, .int x1)]) C.1 C.2.1 dX4_faded_29 hl (k := 3) rfl (inc1 hx3_3) (by decide) rfl (fun ls hl => ?_)
  refine lv_goto (tgt := 4) C.1 C.2.1 dX4_faded_32 (by decide) ?_
  exact hk4 x2_2 x3_3 hf _ _ _ hw (lv_sub hl [2, 3, 1, 0] rfl)
def fX4_faded_4 (S : St) (x1 : Int32) : Nat → Int32 → Int32 → Option Int32
  | 0, _, _ => none
  | n + 1, x2, x3 =>
    if (S 35 0) ≤ x3 then
      some x2
    else
      Option.bind (fX4_later S x3 x1) fun v_1 =>
      if v_1 = 0 then
        fX4_faded_27 S x1 (fX4_faded_4 S x1 n) x3 x2 1
      else
        fX4_faded_27 S x1 (fX4_faded_4 S x1 n) x3 x2 0
set_option maxHeartbeats 4000000 in
set_option maxRecDepth 100000 in
theorem wX4_faded_4 {p : Program} {l : Launch} {e : Env} {s : State} {m : MethodId} {args : Array Value} {below : List Frame} {meth : Method} {c : Code} {D : va_G} {k : Nat → ClassId} {r : Nat → Nat} {tf : Nat → Option Nat} {tq : Nat → Nat} {nt : Nat} (C : Ctx p s m args meth c cX4_faded 4 RX4 (some .int)) (E : gEL D k s) {r1 : Int32} (S : St) (x1 : Int32) : ∀ (n : Nat) (x2 : Int32) (x3 : Int32), fX4_faded_4 S x1 n x2 x3 = some r1 → ∀ (H : Heap) (locs : List Loc) (ls : Array Slot), gW D ((SN k r tf tq nt) S) ((SN k r tf tq nt) S) s H locs → lv_has ls 4 [(0, .ref (r 0)), (1, .int x1), (2, .int x2), (3, .int x3)] → W p l e ({ frames := 1, cells := 0, slots := 0, locals := 23 } : Room) s m args below meth c H locs 0 0 (MQ below (gQi D (SN k r tf tq nt) S (fun (r : Int32) (u : St) => r = r1 ∧ u = S) s.heap.size) args s 0 0 (va_A ((SN k r tf tq nt) S) s.heap.size)) (F0 m 4 ls []) := by
  intro n
  induction n with
  | zero => intro x2 x3 hf; rw [fX4_faded_4] at hf; cases hf
  | succ n ih =>
    intro x2 x3 hf H locs ls hw hl
    rw [fX4_faded_4] at hf
    refine lv_iload_n C.1 C.2.1 dX4_faded_4 rfl (lv_at hl 3 rfl) ?_
    refine lv_aload_n C.1 C.2.1 dX4_faded_5 rfl (lv_at hl 0 rfl) ?_
    refine s_get C E hw 1 (by decide) kf_X4_40 rfl dX4_faded_6 ?_
    refine lv_icmp_ge (tgt := 35) C.1 C.2.1 dX4_faded_9 (by decide) (fun hc => ?_) (fun hc => ?_)
    · have hf := ift hc hf
      refine lv_iload_n C.1 C.2.1 dX4_faded_35 rfl (lv_at hl 2 rfl) ?_
      exact g_iret C hw (Nat.le_of_ble_eq_true rfl) (Nat.le_of_ble_eq_true rfl) ⟨Option.some.inj hf, rfl⟩ dX4_faded_36
    · have hf := iff_ hc hf
      refine lv_iload_n C.1 C.2.1 dX4_faded_12 rfl (lv_at hl 2 rfl) ?_
      refine lv_aload_n C.1 C.2.1 dX4_faded_13 rfl (lv_at hl 0 rfl) ?_
      refine lv_iload_n C.1 C.2.1 dX4_faded_14 rfl (lv_at hl 3 rfl) ?_
      refine lv_iload_n C.1 C.2.1 dX4_faded_15 rfl (lv_at hl 1 rfl) ?_
      obtain ⟨v_1, hv_1, hf⟩ := bnd hf
      refine g_cie (wf := (SN k r tf tq nt)) (S := S) (rest := [.int x2]) SN_adr hw (g_runVL (rm := ({ frames := 0, cells := 0, slots := 0, locals := 0 } : Room)) (As := [.int x3, .int x1]) (rest := [.int x2]) C E hw F_X4_later (ctX4_later l (k := k) (D := D) (r := r) (tf := tf) (tq := tq) (nt := nt) S x3 x1 _ hv_1) km_X4_46 0 SN_0 rfl rfl hl.1 rfl (Nat.le_of_ble_eq_true rfl) ⟨(Nat.le_of_ble_eq_true rfl), (Nat.le_of_ble_eq_true rfl)⟩ ⟨(Nat.le_of_ble_eq_true rfl), (Nat.le_of_ble_eq_true rfl)⟩ dX4_faded_16) (fun H locs hw => ?_)
      refine lv_if_ne (tgt := 26) C.1 C.2.1 dX4_faded_19 (by decide) (fun hc => ?_) (fun hc => ?_)
      · have hf := iff_ hc hf
        refine lv_iconst (v := 0) C.1 C.2.1 dX4_faded_26 (by decide) ?_
        exact wX4_faded_27 C E S x1 (fX4_faded_4 S x1 n) ih x3 x2 0 hf _ _ _ hw (lv_sub hl [0, 1, 3] rfl)
      · have hf := ift hc hf
        refine lv_iconst (v := 1) C.1 C.2.1 dX4_faded_22 (by decide) ?_
        refine lv_goto (tgt := 27) C.1 C.2.1 dX4_faded_23 (by decide) ?_
        exact wX4_faded_27 C E S x1 (fX4_faded_4 S x1 n) ih x3 x2 1 hf _ _ _ hw (lv_sub hl [0, 1, 3] rfl)
def fX4_faded (S : St) (x1 : Int32) : Option Int32 :=
  fX4_faded_4 S x1 100 0 0
set_option maxHeartbeats 4000000 in
set_option maxRecDepth 100000 in
theorem ctX4_faded (l : Launch) {D : va_G} {k : Nat → ClassId} {r : Nat → Nat} {tf : Nat → Option Nat} {tq : Nat → Nat} {nt : Nat} (S : St) (x1 : Int32) (sz : Nat) {r1 : Int32} (hf : fX4_faded S x1 = some r1) : Met l yX4_faded (Cond.code yX4_faded cX4_faded 4 (some .int) :: XALL) ({ frames := 1, cells := 0, slots := 0, locals := 23 } : Room) (va_Pc [.ref (r 0), .int x1] (gPreL D k ((SN k r tf tq nt) S) sz)) (gQi D (SN k r tf tq nt) S (fun (r : Int32) (u : St) => r = r1 ∧ u = S) sz) 0 0 (va_A ((SN k r tf tq nt) S) sz) := by
  unfold fX4_faded at hf
  refine Met.ofW (cc := cX4_faded) (maxL := 4) (ret := (some .int)) (by decide) rfl ?_
  intro p e s m args below meth c s₁ B hml hv
  obtain ⟨rfl, hg⟩ := hv
  have C : Ctx p s m _ meth c cX4_faded 4 RX4 (some .int) := Ctx.of B hml rfl
  obtain ⟨E, hw, hsz⟩ := gL_start hg
  subst hsz
  have hl := lv_entry ([.ref (r 0), .int x1]) (n := 4) (Nat.le_of_ble_eq_true rfl)
  rw [lg_entry_eq]
  generalize (lg_sl ([.ref (r 0), .int x1]) ++ List.replicate (4 - (lg_sl ([.ref (r 0), .int x1])).length) Slot.unset).toArray = ls at hl ⊢
  have hl : lv_has ls 4 [(0, .ref (r 0)), (1, .int x1)] := hl
  refine lv_iconst (v := 0) C.1 C.2.1 dX4_faded_0 (by decide) ?_
  refine lv_istore_n (lv' := [(2, .int 0), (0, .ref (r 0)), (1, .int x1)]) C.1 C.2.1 dX4_faded_1 rfl hl (by decide) rfl (fun ls hl => ?_)
  refine lv_iconst (v := 0) C.1 C.2.1 dX4_faded_2 (by decide) ?_
  refine lv_istore_n (lv' := [(3, .int 0), (2, .int 0), (0, .ref (r 0)), (1, .int x1)]) C.1 C.2.1 dX4_faded_3 rfl hl (by decide) rfl (fun ls hl => ?_)
  exact wX4_faded_4 C E S x1 100 0 0 hf _ _ _ hw (lv_sub hl [2, 3, 1, 0] rfl)
