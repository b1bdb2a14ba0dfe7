def fL_law_849 (L : Nat) (xs : Nat → Int32) (x3 : Int32) (x5 : Int32) (x6 : Int32) (k22 : St → St → Int32 → Option Unit) (k723 : St → St → Int32 → Option Unit) (S : St) (T : St) (x11 : Int32) (x14 : Int32) : Option Unit :=
  if x5 < x14 then
    none
  else
    Option.bind (fX3_matchSame S x11 x11) fun v_76 =>
    if v_76 = 0 then
      none
    else
      Option.bind (some (x11 + 1)) fun x11_77 =>
      k723 S T x11_77
set_option maxHeartbeats 4000000 in
set_option maxRecDepth 100000 in
theorem wL_law_849 {p : Program} {l : Launch} {e : Env} {s : State} {m : MethodId} {below : List Frame} {meth : Method} {c : Code} {b L : Nat} {xs : Nat → Int32} {D : va_G} {k : Nat → ClassId} {qx r : Nat → Nat} (C : Ctx p s m #[Value.ref b] meth c cL_law 17 RL ret) (E : gEL D k s) (hX : va_X b L xs s s.heap) (hbl : b < s.heap.size) (hL : L ≤ 260) {r1 : Unit} (x3 : Int32) (x5 : Int32) (x6 : Int32) (M SM : Nat) (hM : M ≤ 30200 ∧ SM ≤ 724800) (k22 : St → St → Int32 → Option Unit) (hk22 : ∀ (S : St) (T : St) (x3 : Int32), k22 S T x3 = some r1 → ∀ (cl sl : Nat), cl ≤ M ∧ sl ≤ SM → ∀ (H : Heap) (locs : List Loc) (ls : Array Slot), gS D [] k qx r S T [] s H locs → lv_has ls 17 [(0, .ref (b)), (1, .ref (qx 0)), (2, .ref (r 0)), (3, .int x3)] → W p l e room_1 s m #[Value.ref b] below meth c H locs cl sl (lw_Z below #[Value.ref b] s) (F0 m 22 ls [])) (k723 : St → St → Int32 → Option Unit) (hk723 : ∀ (S : St) (T : St) (x11 : Int32), k723 S T x11 = some r1 → ∀ (cl sl : Nat), cl ≤ M ∧ sl ≤ SM → ∀ (H : Heap) (locs : List Loc) (ls : Array Slot), gS D [] k qx r S T [] s H locs → lv_has ls 17 [(0, .ref (b)), (1, .ref (qx 0)), (2, .ref (r 0)), (3, .int x3), (5, .int x5), (6, .int x6), (11, .int x11)] → W p l e room_1 s m #[Value.ref b] below meth c H locs cl sl (lw_Z below #[Value.ref b] s) (F0 m 723 ls [])) : ∀ (S : St) (T : St) (x11 : Int32) (x14 : Int32), fL_law_849 L xs x3 x5 x6 k22 k723 S T x11 x14 = some r1 → ∀ (cl sl : Nat), cl ≤ M ∧ sl ≤ SM → ∀ (H : Heap) (locs : List Loc) (ls : Array Slot), gS D [] k qx r S T [] s H locs → lv_has ls 17 [(0, .ref (b)), (1, .ref (qx 0)), (2, .ref (r 0)), (3, .int x3), (5, .int x5), (6, .int x6), (11, .int x11), (14, .int x14)] → W p l e room_1 s m #[Value.ref b] below meth c H locs cl sl (lw_Z below #[Value.ref b] s) (F0 m 849 ls []) := by
  intro S T x11 x14 hf cl sl hcl H locs ls hw hl
  unfold fL_law_849 at hf
  refine lv_iload C.1 C.2.1 dL_law_849 (lv_at hl 7 rfl) ?_
  refine lv_iload C.1 C.2.1 dL_law_851 (lv_at hl 4 rfl) ?_
  refine lv_icmp_gt (tgt := 867) C.1 C.2.1 dL_law_853 (by decide) (fun hc => ?_) (fun hc => ?_)
  · have hf := ift hc hf
    refine lv_iconst (v := 0) C.1 C.2.1 dL_law_867 (by decide) ?_
    cases hf
  · have hf := iff_ hc hf
    refine lv_aload_n C.1 C.2.1 dL_law_856 rfl (lv_at hl 1 rfl) ?_
    refine lv_iload C.1 C.2.1 dL_law_857 (lv_at hl 6 rfl) ?_
    refine lv_iload C.1 C.2.1 dL_law_859 (lv_at hl 6 rfl) ?_
    obtain ⟨v_76, hv_76, hf⟩ := bnd hf
    refine l_xi (rm := ({ frames := 1, cells := 0, slots := 0, locals := 21 } : Room)) (As := [.int x11, .int x11]) (rest := []) C E hw F_X3_matchSame rfl (fun _ => ctX3_matchSame l (cI := k 0) (D := D) (q := qx) S x11 x11 _ hv_76) km_L_180 rfl hl.1 rfl (Nat.le_of_ble_eq_true rfl) ⟨(Nat.le_of_ble_eq_true rfl), (Nat.le_of_ble_eq_true rfl)⟩ ⟨(by omega : cl + 0 ≤ 600130), (by omega : sl + 0 ≤ 7301080)⟩ dL_law_861 (fun H locs hw => ?_)
    refine W.cs (cells' := cl) (slots' := sl) rfl rfl ?_
    refine lv_if_ne (tgt := 869) C.1 C.2.1 dL_law_864 (by decide) (fun hc => ?_) (fun hc => ?_)
    · have hf := iff_ hc hf
      obtain ⟨x11_77, hx11_77, hf⟩ := bnd hf
      refine lv_iinc (v := x11_77) (lv' := [(11, .int x11_77), (0, .ref (b)), (1, .ref (qx 0)), (2, .ref (r 0)), (3, .int x3), (5, .int x5), (6, .int x6), (14, .int x14)]) C.1 C.2.1 dL_law_869 hl (k := 6) rfl (inc1 hx11_77) (by decide) rfl (fun ls hl => ?_)
      refine lv_goto (tgt := 723) C.1 C.2.1 dL_law_872 (by decide) ?_
      exact hk723 S T x11_77 hf cl sl (by omega) _ _ _ hw (lv_sub hl [1, 2, 3, 4, 5, 6, 0] rfl)
    · have hf := ift hc hf
      refine lv_iconst (v := 0) C.1 C.2.1 dL_law_867 (by decide) ?_
      cases hf
def fL_law_835 (L : Nat) (xs : Nat → Int32) (x3 : Int32) (x5 : Int32) (x6 : Int32) (k22 : St → St → Int32 → Option Unit) (k723 : St → St → Int32 → Option Unit) (S : St) (T : St) (x11 : Int32) (x13 : Int32) (x14 : Int32) (t0 : Int32) (t1 : Int32) : Option Unit :=
  if t0 = t1 then
    if x13 ≤ 0 then
      fL_law_849 L xs x3 x5 x6 k22 k723 S T x11 x14
    else
      if 1 < x14 then
        none
      else
        fL_law_849 L xs x3 x5 x6 k22 k723 S T x11 x14
  else
    none
set_option maxHeartbeats 4000000 in
set_option maxRecDepth 100000 in
theorem wL_law_835 {p : Program} {l : Launch} {e : Env} {s : State} {m : MethodId} {below : List Frame} {meth : Method} {c : Code} {b L : Nat} {xs : Nat → Int32} {D : va_G} {k : Nat → ClassId} {qx r : Nat → Nat} (C : Ctx p s m #[Value.ref b] meth c cL_law 17 RL ret) (E : gEL D k s) (hX : va_X b L xs s s.heap) (hbl : b < s.heap.size) (hL : L ≤ 260) {r1 : Unit} (x3 : Int32) (x5 : Int32) (x6 : Int32) (M SM : Nat) (hM : M ≤ 30200 ∧ SM ≤ 724800) (k22 : St → St → Int32 → Option Unit) (hk22 : ∀ (S : St) (T : St) (x3 : Int32), k22 S T x3 = some r1 → ∀ (cl sl : Nat), cl ≤ M ∧ sl ≤ SM → ∀ (H : Heap) (locs : List Loc) (ls : Array Slot), gS D [] k qx r S T [] s H locs → lv_has ls 17 [(0, .ref (b)), (1, .ref (qx 0)), (2, .ref (r 0)), (3, .int x3)] → W p l e room_1 s m #[Value.ref b] below meth c H locs cl sl (lw_Z below #[Value.ref b] s) (F0 m 22 ls [])) (k723 : St → St → Int32 → Option Unit) (hk723 : ∀ (S : St) (T : St) (x11 : Int32), k723 S T x11 = some r1 → ∀ (cl sl : Nat), cl ≤ M ∧ sl ≤ SM → ∀ (H : Heap) (locs : List Loc) (ls : Array Slot), gS D [] k qx r S T [] s H locs → lv_has ls 17 [(0, .ref (b)), (1, .ref (qx 0)), (2, .ref (r 0)), (3, .int x3), (5, .int x5), (6, .int x6), (11, .int x11)] → W p l e room_1 s m #[Value.ref b] below meth c H locs cl sl (lw_Z below #[Value.ref b] s) (F0 m 723 ls [])) : ∀ (S : St) (T : St) (x11 : Int32) (x13 : Int32) (x14 : Int32) (t0 : Int32) (t1 : Int32), fL_law_835 L xs x3 x5 x6 k22 k723 S T x11 x13 x14 t0 t1 = some r1 → ∀ (cl sl : Nat), cl ≤ M ∧ sl ≤ SM → ∀ (H : Heap) (locs : List Loc) (ls : Array Slot), gS D [] k qx r S T [] s H locs → lv_has ls 17 [(0, .ref (b)), (1, .ref (qx 0)), (2, .ref (r 0)), (3, .int x3), (5, .int x5), (6, .int x6), (11, .int x11), (13, .int x13), (14, .int x14)] → W p l e room_1 s m #[Value.ref b] below meth c H locs cl sl (lw_Z below #[Value.ref b] s) (F0 m 835 ls [.int t1, .int t0]) := by
  intro S T x11 x13 x14 t0 t1 hf cl sl hcl H locs ls hw hl
  unfold fL_law_835 at hf
  refine lv_icmp_ne (tgt := 867) C.1 C.2.1 dL_law_835 (by decide) (fun hc => ?_) (fun hc => ?_)
  · have hf := iff_ hc hf
    refine lv_iconst (v := 0) C.1 C.2.1 dL_law_867 (by decide) ?_
    cases hf
  · have hf := ift hc hf
    refine lv_iload C.1 C.2.1 dL_law_838 (lv_at hl 7 rfl) ?_
    refine lv_if_le (tgt := 849) C.1 C.2.1 dL_law_840 (by decide) (fun hc => ?_) (fun hc => ?_)
    · have hf := ift hc hf
      exact wL_law_849 C E hX hbl hL x3 x5 x6 M SM hM k22 hk22 k723 hk723 S T x11 x14 hf cl sl (by omega) _ _ _ hw (lv_sub hl [0, 1, 2, 3, 4, 5, 6, 8] rfl)
    · have hf := iff_ hc hf
      refine lv_iload C.1 C.2.1 dL_law_843 (lv_at hl 8 rfl) ?_
      refine lv_iconst (v := 1) C.1 C.2.1 dL_law_845 (by decide) ?_
      refine lv_icmp_gt (tgt := 867) C.1 C.2.1 dL_law_846 (by decide) (fun hc => ?_) (fun hc => ?_)
      · have hf := ift hc hf
        refine lv_iconst (v := 0) C.1 C.2.1 dL_law_867 (by decide) ?_
        cases hf
      · have hf := iff_ hc hf
        exact wL_law_849 C E hX hbl hL x3 x5 x6 M SM hM k22 hk22 k723 hk723 S T x11 x14 hf cl sl (by omega) _ _ _ hw (lv_sub hl [0, 1, 2, 3, 4, 5, 6, 8] rfl)
def fL_law_825 (L : Nat) (xs : Nat → Int32) (x3 : Int32) (x5 : Int32) (x6 : Int32) (k22 : St → St → Int32 → Option Unit) (k723 : St → St → Int32 → Option Unit) (S : St) (T : St) (x11 : Int32) (x12 : Int32) (x13 : Int32) (x14 : Int32) (t0 : Int32) : Option Unit :=
  if x12 = 0 then
    fL_law_835 L xs x3 x5 x6 k22 k723 S T x11 x13 x14 t0 1
  else
    fL_law_835 L xs x3 x5 x6 k22 k723 S T x11 x13 x14 t0 0
set_option maxHeartbeats 4000000 in
set_option maxRecDepth 100000 in
theorem wL_law_825 {p : Program} {l : Launch} {e : Env} {s : State} {m : MethodId} {below : List Frame} {meth : Method} {c : Code} {b L : Nat} {xs : Nat → Int32} {D : va_G} {k : Nat → ClassId} {qx r : Nat → Nat} (C : Ctx p s m #[Value.ref b] meth c cL_law 17 RL ret) (E : gEL D k s) (hX : va_X b L xs s s.heap) (hbl : b < s.heap.size) (hL : L ≤ 260) {r1 : Unit} (x3 : Int32) (x5 : Int32) (x6 : Int32) (M SM : Nat) (hM : M ≤ 30200 ∧ SM ≤ 724800) (k22 : St → St → Int32 → Option Unit) (hk22 : ∀ (S : St) (T : St) (x3 : Int32), k22 S T x3 = some r1 → ∀ (cl sl : Nat), cl ≤ M ∧ sl ≤ SM → ∀ (H : Heap) (locs : List Loc) (ls : Array Slot), gS D [] k qx r S T [] s H locs → lv_has ls 17 [(0, .ref (b)), (1, .ref (qx 0)), (2, .ref (r 0)), (3, .int x3)] → W p l e room_1 s m #[Value.ref b] below meth c H locs cl sl (lw_Z below #[Value.ref b] s) (F0 m 22 ls [])) (k723 : St → St → Int32 → Option Unit) (hk723 : ∀ (S : St) (T : St) (x11 : Int32), k723 S T x11 = some r1 → ∀ (cl sl : Nat), cl ≤ M ∧ sl ≤ SM → ∀ (H : Heap) (locs : List Loc) (ls : Array Slot), gS D [] k qx r S T [] s H locs → lv_has ls 17 [(0, .ref (b)), (1, .ref (qx 0)), (2, .ref (r 0)), (3, .int x3), (5, .int x5), (6, .int x6), (11, .int x11)] → W p l e room_1 s m #[Value.ref b] below meth c H locs cl sl (lw_Z below #[Value.ref b] s) (F0 m 723 ls [])) : ∀ (S : St) (T : St) (x11 : Int32) (x12 : Int32) (x13 : Int32) (x14 : Int32) (t0 : Int32), fL_law_825 L xs x3 x5 x6 k22 k723 S T x11 x12 x13 x14 t0 = some r1 → ∀ (cl sl : Nat), cl ≤ M ∧ sl ≤ SM → ∀ (H : Heap) (locs : List Loc) (ls : Array Slot), gS D [] k qx r S T [] s H locs → lv_has ls 17 [(0, .ref (b)), (1, .ref (qx 0)), (2, .ref (r 0)), (3, .int x3), (5, .int x5), (6, .int x6), (11, .int x11), (12, .int x12), (13, .int x13), (14, .int x14)] → W p l e room_1 s m #[Value.ref b] below meth c H locs cl sl (lw_Z below #[Value.ref b] s) (F0 m 825 ls [.int t0]) := by
  intro S T x11 x12 x13 x14 t0 hf cl sl hcl H locs ls hw hl
  unfold fL_law_825 at hf
  refine lv_iload C.1 C.2.1 dL_law_825 (lv_at hl 7 rfl) ?_
  refine lv_if_ne (tgt := 834) C.1 C.2.1 dL_law_827 (by decide) (fun hc => ?_) (fun hc => ?_)
  · have hf := iff_ hc hf
    refine lv_iconst (v := 0) C.1 C.2.1 dL_law_834 (by decide) ?_
    exact wL_law_835 C E hX hbl hL x3 x5 x6 M SM hM k22 hk22 k723 hk723 S T x11 x13 x14 t0 0 hf cl sl (by omega) _ _ _ hw (lv_sub hl [0, 1, 2, 3, 4, 5, 6, 8, 9] rfl)
  · have hf := ift hc hf
    refine lv_iconst (v := 1) C.1 C.2.1 dL_law_830 (by decide) ?_
    refine lv_goto (tgt := 835) C.1 C.2.1 dL_law_831 (by decide) ?_
    exact wL_law_835 C E hX hbl hL x3 x5 x6 M SM hM k22 hk22 k723 hk723 S T x11 x13 x14 t0 1 hf cl sl (by omega) _ _ _ hw (lv_sub hl [0, 1, 2, 3, 4, 5, 6, 8, 9] rfl)
def fL_law_746 (L : Nat) (xs : Nat → Int32) (x3 : Int32) (x5 : Int32) (x6 : Int32) (x11 : Int32) (x13 : Int32) (k22 : St → St → Int32 → Option Unit) (k723 : St → St → Int32 → Option Unit) : Nat → St → St → Int32 → Int32 → Option Unit
  | 0, _, _, _, _ => none
  | n + 1, S, T, x12, x14 =>
    if x6 ≤ x14 then
      Option.bind (fX3_coverSize S x11) fun u_58 => pr u_58 fun v_56 S_57 =>
      Option.bind (fX3_matchesOf S_57 x11) fun v_59 =>
      if x12 = v_59 then
        if x12 < v_56 then
          none
        else
          if v_56 = 0 then
            fL_law_825 L xs x3 x5 x6 k22 k723 S_57 T x11 x12 x13 v_56 1
          else
            fL_law_825 L xs x3 x5 x6 k22 k723 S_57 T x11 x12 x13 v_56 0
      else
        none
    else
      Option.bind (fX3_matches S x11 x14) fun v_60 =>
      if v_60 = 0 then
        Option.bind (some (x14 + 1)) fun x14_64 =>
        fL_law_746 L xs x3 x5 x6 x11 x13 k22 k723 n S T x12 x14_64
      else
        Option.bind (some (x12 + 1)) fun x12_61 =>
        Option.bind (fX3_tagsOf S x14) fun v_62 =>
        if x13 ≤ v_62 then
          Option.bind (some (x14 + 1)) fun x14_63 =>
          fL_law_746 L xs x3 x5 x6 x11 x13 k22 k723 n S T x12_61 x14_63
        else
          none
set_option maxHeartbeats 4000000 in
set_option maxRecDepth 100000 in
theorem wL_law_746 {p : Program} {l : Launch} {e : Env} {s : State} {m : MethodId} {below : List Frame} {meth : Method} {c : Code} {b L : Nat} {xs : Nat → Int32} {D : va_G} {k : Nat → ClassId} {qx r : Nat → Nat} (C : Ctx p s m #[Value.ref b] meth c cL_law 17 RL ret) (E : gEL D k s) (hX : va_X b L xs s s.heap) (hbl : b < s.heap.size) (hL : L ≤ 260) {r1 : Unit} (x3 : Int32) (x5 : Int32) (x6 : Int32) (x11 : Int32) (x13 : Int32) (M SM : Nat) (hM : M ≤ 30200 ∧ SM ≤ 724800) (k22 : St → St → Int32 → Option Unit) (hk22 : ∀ (S : St) (T : St) (x3 : Int32), k22 S T x3 = some r1 → ∀ (cl sl : Nat), cl ≤ M ∧ sl ≤ SM → ∀ (H : Heap) (locs : List Loc) (ls : Array Slot), gS D [] k qx r S T [] s H locs → lv_has ls 17 [(0, .ref (b)), (1, .ref (qx 0)), (2, .ref (r 0)), (3, .int x3)] → W p l e room_1 s m #[Value.ref b] below meth c H locs cl sl (lw_Z below #[Value.ref b] s) (F0 m 22 ls [])) (k723 : St → St → Int32 → Option Unit) (hk723 : ∀ (S : St) (T : St) (x11 : Int32), k723 S T x11 = some r1 → ∀ (cl sl : Nat), cl ≤ M ∧ sl ≤ SM → ∀ (H : Heap) (locs : List Loc) (ls : Array Slot), gS D [] k qx r S T [] s H locs → lv_has ls 17 [(0, .ref (b)), (1, .ref (qx 0)), (2, .ref (r 0)), (3, .int x3), (5, .int x5), (6, .int x6), (11, .int x11)] → W p l e room_1 s m #[Value.ref b] below meth c H locs cl sl (lw_Z below #[Value.ref b] s) (F0 m 723 ls [])) : ∀ (n : Nat) (S : St) (T : St) (x12 : Int32) (x14 : Int32), fL_law_746 L xs x3 x5 x6 x11 x13 k22 k723 n S T x12 x14 = some r1 → ∀ (cl sl : Nat), cl ≤ M ∧ sl ≤ SM → ∀ (H : Heap) (locs : List Loc) (ls : Array Slot), gS D [] k qx r S T [] s H locs → lv_has ls 17 [(0, .ref (b)), (1, .ref (qx 0)), (2, .ref (r 0)), (3, .int x3), (5, .int x5), (6, .int x6), (11, .int x11), (12, .int x12), (13, .int x13), (14, .int x14)] → W p l e room_1 s m #[Value.ref b] below meth c H locs cl sl (lw_Z below #[Value.ref b] s) (F0 m 746 ls []) := by
  intro n
  induction n with
  | zero => intro S T x12 x14 hf; rw [fL_law_746] at hf; cases hf
  | succ n ih =>
    intro S T x12 x14 hf cl sl hcl H locs ls hw hl
    rw [fL_law_746] at hf
    refine lv_iload C.1 C.2.1 dL_law_746 (lv_at hl 9 rfl) ?_
    refine lv_iload C.1 C.2.1 dL_law_748 (lv_at hl 5 rfl) ?_
    refine lv_icmp_ge (tgt := 789) C.1 C.2.1 dL_law_750 (by decide) (fun hc => ?_) (fun hc => ?_)
    · have hf := ift hc hf
      refine lv_aload_n C.1 C.2.1 dL_law_789 rfl (lv_at hl 1 rfl) ?_
      refine lv_iload C.1 C.2.1 dL_law_790 (lv_at hl 6 rfl) ?_
      obtain ⟨⟨v_56, S_57⟩, hu_58, hf⟩ := bnd hf
      have hf := pr_r hf
      refine l_xi (rm := ({ frames := 23, cells := 0, slots := 0, locals := 872 } : Room)) (As := [.int x11]) (rest := []) C E hw F_X3_coverSize rfl (fun _ => ctX3_coverSize l (cI := k 0) (D := D) (q := qx) S x11 _ hu_58) km_L_174 rfl hl.1 rfl (Nat.le_of_ble_eq_true rfl) ⟨(Nat.le_of_ble_eq_true rfl), (Nat.le_of_ble_eq_true rfl)⟩ ⟨(by omega : cl + 0 ≤ 600130), (by omega : sl + 0 ≤ 7301080)⟩ dL_law_792 (fun H locs hw => ?_)
      refine W.cs (cells' := cl) (slots' := sl) rfl rfl ?_
      refine lv_istore (lv' := [(14, .int v_56), (0, .ref (b)), (1, .ref (qx 0)), (2, .ref (r 0)), (3, .int x3), (5, .int x5), (6, .int x6), (11, .int x11), (12, .int x12), (13, .int x13)]) C.1 C.2.1 dL_law_795 hl (by decide) rfl (fun ls hl => ?_)
      refine lv_iload C.1 C.2.1 dL_law_797 (lv_at hl 8 rfl) ?_
      refine lv_aload_n C.1 C.2.1 dL_law_799 rfl (lv_at hl 2 rfl) ?_
      refine lv_iload C.1 C.2.1 dL_law_800 (lv_at hl 7 rfl) ?_
      obtain ⟨v_59, hv_59, hf⟩ := bnd hf
      refine l_xi (rm := ({ frames := 1, cells := 0, slots := 0, locals := 21 } : Room)) (As := [.int x11]) (rest := [.int x12]) C E hw F_X3_matchesOf rfl (fun _ => ctX3_matchesOf l (cI := k 0) (D := D) (q := qx) S_57 x11 _ hv_59) km_L_177 rfl hl.1 rfl (Nat.le_of_ble_eq_true rfl) ⟨(Nat.le_of_ble_eq_true rfl), (Nat.le_of_ble_eq_true rfl)⟩ ⟨(by omega : cl + 0 ≤ 600130), (by omega : sl + 0 ≤ 7301080)⟩ dL_law_802 (fun H locs hw => ?_)
      refine W.cs (cells' := cl) (slots' := sl) rfl rfl ?_
      refine lv_icmp_ne (tgt := 867) C.1 C.2.1 dL_law_805 (by decide) (fun hc => ?_) (fun hc => ?_)
      · have hf := iff_ hc hf
        refine lv_iconst (v := 0) C.1 C.2.1 dL_law_867 (by decide) ?_
        cases hf
      · have hf := ift hc hf
        refine lv_iload C.1 C.2.1 dL_law_808 (lv_at hl 0 rfl) ?_
        refine lv_iload C.1 C.2.1 dL_law_810 (lv_at hl 8 rfl) ?_
        refine lv_icmp_gt (tgt := 867) C.1 C.2.1 dL_law_812 (by decide) (fun hc => ?_) (fun hc => ?_)
        · have hf := ift hc hf
          refine lv_iconst (v := 0) C.1 C.2.1 dL_law_867 (by decide) ?_
          cases hf
        · have hf := iff_ hc hf
          refine lv_iload C.1 C.2.1 dL_law_815 (lv_at hl 0 rfl) ?_
          refine lv_if_ne (tgt := 824) C.1 C.2.1 dL_law_817 (by decide) (fun hc => ?_) (fun hc => ?_)
          · have hf := iff_ hc hf
            refine lv_iconst (v := 0) C.1 C.2.1 dL_law_824 (by decide) ?_
            exact wL_law_825 C E hX hbl hL x3 x5 x6 M SM hM k22 hk22 k723 hk723 S_57 T x11 x12 x13 v_56 0 hf cl sl (by omega) _ _ _ hw (lv_sub hl [1, 2, 3, 4, 5, 6, 7, 8, 9, 0] rfl)
          · have hf := ift hc hf
            refine lv_iconst (v := 1) C.1 C.2.1 dL_law_820 (by decide) ?_
            refine lv_goto (tgt := 825) C.1 C.2.1 dL_law_821 (by decide) ?_
            exact wL_law_825 C E hX hbl hL x3 x5 x6 M SM hM k22 hk22 k723 hk723 S_57 T x11 x12 x13 v_56 1 hf cl sl (by omega) _ _ _ hw (lv_sub hl [1, 2, 3, 4, 5, 6, 7, 8, 9, 0] rfl)
    · have hf := iff_ hc hf
      refine lv_aload_n C.1 C.2.1 dL_law_753 rfl (lv_at hl 1 rfl) ?_
      refine lv_iload C.1 C.2.1 dL_law_754 (lv_at hl 6 rfl) ?_
      refine lv_iload C.1 C.2.1 dL_law_756 (lv_at hl 9 rfl) ?_
      obtain ⟨v_60, hv_60, hf⟩ := bnd hf
      refine l_xi (rm := ({ frames := 1, cells := 0, slots := 0, locals := 21 } : Room)) (As := [.int x11, .int x14]) (rest := []) C E hw F_X3_matches rfl (fun _ => ctX3_matches l (cI := k 0) (D := D) (q := qx) S x11 x14 _ hv_60) km_L_171 rfl hl.1 rfl (Nat.le_of_ble_eq_true rfl) ⟨(Nat.le_of_ble_eq_true rfl), (Nat.le_of_ble_eq_true rfl)⟩ ⟨(by omega : cl + 0 ≤ 600130), (by omega : sl + 0 ≤ 7301080)⟩ dL_law_758 (fun H locs hw => ?_)
      refine W.cs (cells' := cl) (slots' := sl) rfl rfl ?_
      refine lv_if_ne (tgt := 767) C.1 C.2.1 dL_law_761 (by decide) (fun hc => ?_) (fun hc => ?_)
      · have hf := iff_ hc hf
        obtain ⟨x12_61, hx12_61, hf⟩ := bnd hf
        refine lv_iinc (v := x12_61) (lv' := [(12, .int x12_61), (0, .ref (b)), (1, .ref (qx 0)), (2, .ref (r 0)), (3, .int x3), (5, .int x5), (6, .int x6), (11, .int x11), (13, .int x13), (14, .int x14)]) C.1 C.2.1 dL_law_767 hl (k := 7) rfl (inc1 hx12_61) (by decide) rfl (fun ls hl => ?_)
        refine lv_iload C.1 C.2.1 dL_law_770 (lv_at hl 8 rfl) ?_
        refine lv_aload_n C.1 C.2.1 dL_law_772 rfl (lv_at hl 2 rfl) ?_
        refine lv_iload C.1 C.2.1 dL_law_773 (lv_at hl 9 rfl) ?_
        obtain ⟨v_62, hv_62, hf⟩ := bnd hf
        refine l_xi (rm := ({ frames := 1, cells := 0, slots := 0, locals := 21 } : Room)) (As := [.int x14]) (rest := [.int x13]) C E hw F_X3_tagsOf rfl (fun _ => ctX3_tagsOf l (cI := k 0) (D := D) (q := qx) S x14 _ hv_62) km_L_148 rfl hl.1 rfl (Nat.le_of_ble_eq_true rfl) ⟨(Nat.le_of_ble_eq_true rfl), (Nat.le_of_ble_eq_true rfl)⟩ ⟨(by omega : cl + 0 ≤ 600130), (by omega : sl + 0 ≤ 7301080)⟩ dL_law_775 (fun H locs hw => ?_)
        refine W.cs (cells' := cl) (slots' := sl) rfl rfl ?_
        refine lv_icmp_le (tgt := 783) C.1 C.2.1 dL_law_778 (by decide) (fun hc => ?_) (fun hc => ?_)
        · have hf := ift hc hf
          obtain ⟨x14_63, hx14_63, hf⟩ := bnd hf
          refine lv_iinc (v := x14_63) (lv' := [(14, .int x14_63), (12, .int x12_61), (0, .ref (b)), (1, .ref (qx 0)), (2, .ref (r 0)), (3, .int x3), (5, .int x5), (6, .int x6), (11, .int x11), (13, .int x13)]) C.1 C.2.1 dL_law_783 hl (k := 9) rfl (inc1 hx14_63) (by decide) rfl (fun ls hl => ?_)
          refine lv_goto (tgt := 746) C.1 C.2.1 dL_law_786 (by decide) ?_
          exact ih S T x12_61 x14_63 hf cl sl (by omega) _ _ _ hw (lv_sub hl [2, 3, 4, 5, 6, 7, 8, 1, 9, 0] rfl)
        · have hf := iff_ hc hf
          refine lv_iconst (v := 0) C.1 C.2.1 dL_law_781 (by decide) ?_
          cases hf
      · have hf := ift hc hf
        refine lv_goto (tgt := 783) C.1 C.2.1 dL_law_764 (by decide) ?_
        obtain ⟨x14_64, hx14_64, hf⟩ := bnd hf
        refine lv_iinc (v := x14_64) (lv' := [(14, .int x14_64), (0, .ref (b)), (1, .ref (qx 0)), (2, .ref (r 0)), (3, .int x3), (5, .int x5), (6, .int x6), (11, .int x11), (12, .int x12), (13, .int x13)]) C.1 C.2.1 dL_law_783 hl (k := 9) rfl (inc1 hx14_64) (by decide) rfl (fun ls hl => ?_)
        refine lv_goto (tgt := 746) C.1 C.2.1 dL_law_786 (by decide) ?_
        exact ih S T x12 x14_64 hf cl sl (by omega) _ _ _ hw (lv_sub hl [1, 2, 3, 4, 5, 6, 7, 8, 9, 0] rfl)
def fL_law_723 (L : Nat) (xs : Nat → Int32) (x3 : Int32) (x5 : Int32) (x6 : Int32) (k22 : St → St → Int32 → Option Unit) : Nat → St → St → Int32 → Option Unit
  | 0, _, _, _ => none
  | n + 1, S, T, x11 =>
    Option.bind (fX3_terms S) fun v_46 =>
    if v_46 ≤ x11 then
      Option.bind (some (x3 + 1)) fun x3_47 =>
      k22 S T x3_47
    else
      Option.bind (fX3_commonTags S x11) fun v_48 =>
      fL_law_746 L xs x3 x5 x6 x11 v_48 k22 (fL_law_723 L xs x3 x5 x6 k22 n) 100 S T 0 0
set_option maxHeartbeats 4000000 in
set_option maxRecDepth 100000 in
theorem wL_law_723 {p : Program} {l : Launch} {e : Env} {s : State} {m : MethodId} {below : List Frame} {meth : Method} {c : Code} {b L : Nat} {xs : Nat → Int32} {D : va_G} {k : Nat → ClassId} {qx r : Nat → Nat} (C : Ctx p s m #[Value.ref b] meth c cL_law 17 RL ret) (E : gEL D k s) (hX : va_X b L xs s s.heap) (hbl : b < s.heap.size) (hL : L ≤ 260) {r1 : Unit} (x3 : Int32) (x5 : Int32) (x6 : Int32) (M SM : Nat) (hM : M ≤ 30200 ∧ SM ≤ 724800) (k22 : St → St → Int32 → Option Unit) (hk22 : ∀ (S : St) (T : St) (x3 : Int32), k22 S T x3 = some r1 → ∀ (cl sl : Nat), cl ≤ M ∧ sl ≤ SM → ∀ (H : Heap) (locs : List Loc) (ls : Array Slot), gS D [] k qx r S T [] s H locs → lv_has ls 17 [(0, .ref (b)), (1, .ref (qx 0)), (2, .ref (r 0)), (3, .int x3)] → W p l e room_1 s m #[Value.ref b] below meth c H locs cl sl (lw_Z below #[Value.ref b] s) (F0 m 22 ls [])) : ∀ (n : Nat) (S : St) (T : St) (x11 : Int32), fL_law_723 L xs x3 x5 x6 k22 n S T x11 = some r1 → ∀ (cl sl : Nat), cl ≤ M ∧ sl ≤ SM → ∀ (H : Heap) (locs : List Loc) (ls : Array Slot), gS D [] k qx r S T [] s H locs → lv_has ls 17 [(0, .ref (b)), (1, .ref (qx 0)), (2, .ref (r 0)), (3, .int x3), (5, .int x5), (6, .int x6), (11, .int x11)] → W p l e room_1 s m #[Value.ref b] below meth c H locs cl sl (lw_Z below #[Value.ref b] s) (F0 m 723 ls []) := by
  intro n
  induction n with
  | zero => intro S T x11 hf; rw [fL_law_723] at hf; cases hf
  | succ n ih =>
    intro S T x11 hf cl sl hcl H locs ls hw hl
    rw [fL_law_723] at hf
    refine lv_iload C.1 C.2.1 dL_law_723 (lv_at hl 6 rfl) ?_
    refine lv_aload_n C.1 C.2.1 dL_law_725 rfl (lv_at hl 1 rfl) ?_
    obtain ⟨v_46, hv_46, hf⟩ := bnd hf
    refine l_xi (rm := ({ frames := 0, cells := 0, slots := 0, locals := 0 } : Room)) (As := []) (rest := [.int x11]) C E hw F_X3_terms rfl (fun _ => ctX3_terms l (cI := k 0) (D := D) (q := qx) S _ hv_46) km_L_166 rfl hl.1 rfl (Nat.le_of_ble_eq_true rfl) ⟨(Nat.le_of_ble_eq_true rfl), (Nat.le_of_ble_eq_true rfl)⟩ ⟨(by omega : cl + 0 ≤ 600130), (by omega : sl + 0 ≤ 7301080)⟩ dL_law_726 (fun H locs hw => ?_)
    refine W.cs (cells' := cl) (slots' := sl) rfl rfl ?_
    refine lv_icmp_ge (tgt := 875) C.1 C.2.1 dL_law_729 (by decide) (fun hc => ?_) (fun hc => ?_)
    · have hf := ift hc hf
      obtain ⟨x3_47, hx3_47, hf⟩ := bnd hf
      refine lv_iinc (v := x3_47) (lv' := [(3, .int x3_47), (0, .ref (b)), (1, .ref (qx 0)), (2, .ref (r 0)), (5, .int x5), (6, .int x6), (11, .int x11)]) C.1 C.2.1 dL_law_875 hl (k := 3) rfl (inc1 hx3_47) (by decide) rfl (fun ls hl => ?_)
      refine lv_goto (tgt := 22) C.1 C.2.1 dL_law_878 (by decide) ?_
      exact hk22 S T x3_47 hf cl sl (by omega) _ _ _ hw (lv_sub hl [1, 2, 3, 0] rfl)
    · have hf := iff_ hc hf
      refine lv_iconst (v := 0) C.1 C.2.1 dL_law_732 (by decide) ?_
      refine lv_istore (lv' := [(12, .int 0), (0, .ref (b)), (1, .ref (qx 0)), (2, .ref (r 0)), (3, .int x3), (5, .int x5), (6, .int x6), (11, .int x11)]) C.1 C.2.1 dL_law_733 hl (by decide) rfl (fun ls hl => ?_)
      refine lv_aload_n C.1 C.2.1 dL_law_735 rfl (lv_at hl 2 rfl) ?_
      refine lv_iload C.1 C.2.1 dL_law_736 (lv_at hl 7 rfl) ?_
      obtain ⟨v_48, hv_48, hf⟩ := bnd hf
      refine l_xi (rm := ({ frames := 2, cells := 0, slots := 0, locals := 44 } : Room)) (As := [.int x11]) (rest := []) C E hw F_X3_commonTags rfl (fun _ => ctX3_commonTags l (cI := k 0) (D := D) (q := qx) S x11 _ hv_48) km_L_168 rfl hl.1 rfl (Nat.le_of_ble_eq_true rfl) ⟨(Nat.le_of_ble_eq_true rfl), (Nat.le_of_ble_eq_true rfl)⟩ ⟨(by omega : cl + 0 ≤ 600130), (by omega : sl + 0 ≤ 7301080)⟩ dL_law_738 (fun H locs hw => ?_)
      refine W.cs (cells' := cl) (slots' := sl) rfl rfl ?_
      refine lv_istore (lv' := [(13, .int v_48), (12, .int 0), (0, .ref (b)), (1, .ref (qx 0)), (2, .ref (r 0)), (3, .int x3), (5, .int x5), (6, .int x6), (11, .int x11)]) C.1 C.2.1 dL_law_741 hl (by decide) rfl (fun ls hl => ?_)
      refine lv_iconst (v := 0) C.1 C.2.1 dL_law_743 (by decide) ?_
      refine lv_istore (lv' := [(14, .int 0), (13, .int v_48), (12, .int 0), (0, .ref (b)), (1, .ref (qx 0)), (2, .ref (r 0)), (3, .int x3), (5, .int x5), (6, .int x6), (11, .int x11)]) C.1 C.2.1 dL_law_744 hl (by decide) rfl (fun ls hl => ?_)
      exact wL_law_746 C E hX hbl hL x3 x5 x6 x11 v_48 M SM hM k22 hk22 (fL_law_723 L xs x3 x5 x6 k22 n) ih 100 S T 0 0 hf cl sl (by omega) _ _ _ hw (lv_sub hl [3, 4, 5, 6, 7, 8, 9, 2, 1, 0] rfl)
def fL_law_714 (L : Nat) (xs : Nat → Int32) (k22 : St → St → Int32 → Option Unit) (S : St) (T : St) (x3 : Int32) (x5 : Int32) (x6 : Int32) (t0 : UInt64) (t1 : UInt64) : Option Unit :=
  Option.bind (some (Op.cmpValue (FP.dcmp t0 t1) .l)) fun v_29 =>
  if v_29 = 0 then
    fL_law_723 L xs x3 x5 x6 k22 100 S T 0
  else
    none
set_option maxHeartbeats 4000000 in
set_option maxRecDepth 100000 in
theorem wL_law_714 {p : Program} {l : Launch} {e : Env} {s : State} {m : MethodId} {below : List Frame} {meth : Method} {c : Code} {b L : Nat} {xs : Nat → Int32} {D : va_G} {k : Nat → ClassId} {qx r : Nat → Nat} (C : Ctx p s m #[Value.ref b] meth c cL_law 17 RL ret) (E : gEL D k s) (hX : va_X b L xs s s.heap) (hbl : b < s.heap.size) (hL : L ≤ 260) {r1 : Unit} (M SM : Nat) (hM : M ≤ 30200 ∧ SM ≤ 724800) (k22 : St → St → Int32 → Option Unit) (hk22 : ∀ (S : St) (T : St) (x3 : Int32), k22 S T x3 = some r1 → ∀ (cl sl : Nat), cl ≤ M ∧ sl ≤ SM → ∀ (H : Heap) (locs : List Loc) (ls : Array Slot), gS D [] k qx r S T [] s H locs → lv_has ls 17 [(0, .ref (b)), (1, .ref (qx 0)), (2, .ref (r 0)), (3, .int x3)] → W p l e room_1 s m #[Value.ref b] below meth c H locs cl sl (lw_Z below #[Value.ref b] s) (F0 m 22 ls [])) : ∀ (S : St) (T : St) (x3 : Int32) (x5 : Int32) (x6 : Int32) (t0 : UInt64) (t1 : UInt64), fL_law_714 L xs k22 S T x3 x5 x6 t0 t1 = some r1 → ∀ (cl sl : Nat), cl ≤ M ∧ sl ≤ SM → ∀ (H : Heap) (locs : List Loc) (ls : Array Slot), gS D [] k qx r S T [] s H locs → lv_has ls 17 [(0, .ref (b)), (1, .ref (qx 0)), (2, .ref (r 0)), (3, .int x3), (5, .int x5), (6, .int x6)] → W p l e room_1 s m #[Value.ref b] below meth c H locs cl sl (lw_Z below #[Value.ref b] s) (F0 m 714 ls [.double t1, .double t0]) := by
  intro S T x3 x5 x6 t0 t1 hf cl sl hcl H locs ls hw hl
  unfold fL_law_714 at hf
  obtain ⟨v_29, hv_29, hf⟩ := bnd hf
  refine lv_dcmp C.1 C.2.1 dL_law_714 ?_
  refine topi_b hv_29 ?_
  refine lv_if_eq (tgt := 720) C.1 C.2.1 dL_law_715 (by decide) (fun hc => ?_) (fun hc => ?_)
  · have hf := ift hc hf
    refine lv_iconst (v := 0) C.1 C.2.1 dL_law_720 (by decide) ?_
    refine lv_istore (lv' := [(11, .int 0), (0, .ref (b)), (1, .ref (qx 0)), (2, .ref (r 0)), (3, .int x3), (5, .int x5), (6, .int x6)]) C.1 C.2.1 dL_law_721 hl (by decide) rfl (fun ls hl => ?_)
    exact wL_law_723 C E hX hbl hL x3 x5 x6 M SM hM k22 hk22 100 S T 0 hf cl sl (by omega) _ _ _ hw (lv_sub hl [1, 2, 3, 4, 5, 6, 0] rfl)
  · have hf := iff_ hc hf
    refine lv_iconst (v := 0) C.1 C.2.1 dL_law_718 (by decide) ?_
    cases hf
def fL_law_665 (L : Nat) (xs : Nat → Int32) (x3 : Int32) (x5 : Int32) (x6 : Int32) (k22 : St → St → Int32 → Option Unit) (k425 : St → St → Int32 → Int32 → Int32 → Option Unit) (S : St) (T : St) (x10 : Int32) (x11 : Int32) (t0 : Int32) (t1 : Int32) : Option Unit :=
  Option.bind (some ((t0 + t1))) fun x9_65 =>
  Option.bind (fX3_vividnessOf S x11) fun v_66 =>
  Option.bind (some ((x10 + v_66))) fun x10_67 =>
  Option.bind (some (x11 + 1)) fun x11_68 =>
  k425 S T x9_65 x10_67 x11_68
set_option maxHeartbeats 4000000 in
set_option maxRecDepth 100000 in
theorem wL_law_665 {p : Program} {l : Launch} {e : Env} {s : State} {m : MethodId} {below : List Frame} {meth : Method} {c : Code} {b L : Nat} {xs : Nat → Int32} {D : va_G} {k : Nat → ClassId} {qx r : Nat → Nat} (C : Ctx p s m #[Value.ref b] meth c cL_law 17 RL ret) (E : gEL D k s) (hX : va_X b L xs s s.heap) (hbl : b < s.heap.size) (hL : L ≤ 260) {r1 : Unit} (x3 : Int32) (x5 : Int32) (x6 : Int32) (M SM : Nat) (hM : M ≤ 30200 ∧ SM ≤ 724800) (k22 : St → St → Int32 → Option Unit) (hk22 : ∀ (S : St) (T : St) (x3 : Int32), k22 S T x3 = some r1 → ∀ (cl sl : Nat), cl ≤ M ∧ sl ≤ SM → ∀ (H : Heap) (locs : List Loc) (ls : Array Slot), gS D [] k qx r S T [] s H locs → lv_has ls 17 [(0, .ref (b)), (1, .ref (qx 0)), (2, .ref (r 0)), (3, .int x3)] → W p l e room_1 s m #[Value.ref b] below meth c H locs cl sl (lw_Z below #[Value.ref b] s) (F0 m 22 ls [])) (k425 : St → St → Int32 → Int32 → Int32 → Option Unit) (hk425 : ∀ (S : St) (T : St) (x9 : Int32) (x10 : Int32) (x11 : Int32), k425 S T x9 x10 x11 = some r1 → ∀ (cl sl : Nat), cl ≤ M ∧ sl ≤ SM → ∀ (H : Heap) (locs : List Loc) (ls : Array Slot), gS D [] k qx r S T [] s H locs → lv_has ls 17 [(0, .ref (b)), (1, .ref (qx 0)), (2, .ref (r 0)), (3, .int x3), (5, .int x5), (6, .int x6), (9, .int x9), (10, .int x10), (11, .int x11)] → W p l e room_1 s m #[Value.ref b] below meth c H locs cl sl (lw_Z below #[Value.ref b] s) (F0 m 425 ls [])) : ∀ (S : St) (T : St) (x10 : Int32) (x11 : Int32) (t0 : Int32) (t1 : Int32), fL_law_665 L xs x3 x5 x6 k22 k425 S T x10 x11 t0 t1 = some r1 → ∀ (cl sl : Nat), cl ≤ M ∧ sl ≤ SM → ∀ (H : Heap) (locs : List Loc) (ls : Array Slot), gS D [] k qx r S T [] s H locs → lv_has ls 17 [(0, .ref (b)), (1, .ref (qx 0)), (2, .ref (r 0)), (3, .int x3), (5, .int x5), (6, .int x6), (10, .int x10), (11, .int x11)] → W p l e room_1 s m #[Value.ref b] below meth c H locs cl sl (lw_Z below #[Value.ref b] s) (F0 m 665 ls [.int t1, .int t0]) := by
  intro S T x10 x11 t0 t1 hf cl sl hcl H locs ls hw hl
  unfold fL_law_665 at hf
  refine lv_iadd C.1 C.2.1 dL_law_665 ?_
  obtain ⟨x9_65, hx9_65, hf⟩ := bnd hf
  refine topi_b hx9_65 ?_
  refine lv_istore (lv' := [(9, .int x9_65), (0, .ref (b)), (1, .ref (qx 0)), (2, .ref (r 0)), (3, .int x3), (5, .int x5), (6, .int x6), (10, .int x10), (11, .int x11)]) C.1 C.2.1 dL_law_666 hl (by decide) rfl (fun ls hl => ?_)
  refine lv_iload C.1 C.2.1 dL_law_668 (lv_at hl 7 rfl) ?_
  refine lv_aload_n C.1 C.2.1 dL_law_670 rfl (lv_at hl 2 rfl) ?_
  refine lv_iload C.1 C.2.1 dL_law_671 (lv_at hl 8 rfl) ?_
  obtain ⟨v_66, hv_66, hf⟩ := bnd hf
  refine l_xi (rm := ({ frames := 1, cells := 0, slots := 0, locals := 21 } : Room)) (As := [.int x11]) (rest := [.int x10]) C E hw F_X3_vividnessOf rfl (fun _ => ctX3_vividnessOf l (cI := k 0) (D := D) (q := qx) S x11 _ hv_66) km_L_151 rfl hl.1 rfl (Nat.le_of_ble_eq_true rfl) ⟨(Nat.le_of_ble_eq_true rfl), (Nat.le_of_ble_eq_true rfl)⟩ ⟨(by omega : cl + 0 ≤ 600130), (by omega : sl + 0 ≤ 7301080)⟩ dL_law_673 (fun H locs hw => ?_)
  refine W.cs (cells' := cl) (slots' := sl) rfl rfl ?_
  refine lv_iadd C.1 C.2.1 dL_law_676 ?_
  obtain ⟨x10_67, hx10_67, hf⟩ := bnd hf
  refine topi_b hx10_67 ?_
  refine lv_istore (lv' := [(10, .int x10_67), (9, .int x9_65), (0, .ref (b)), (1, .ref (qx 0)), (2, .ref (r 0)), (3, .int x3), (5, .int x5), (6, .int x6), (11, .int x11)]) C.1 C.2.1 dL_law_677 hl (by decide) rfl (fun ls hl => ?_)
  obtain ⟨x11_68, hx11_68, hf⟩ := bnd hf
  refine lv_iinc (v := x11_68) (lv' := [(11, .int x11_68), (10, .int x10_67), (9, .int x9_65), (0, .ref (b)), (1, .ref (qx 0)), (2, .ref (r 0)), (3, .int x3), (5, .int x5), (6, .int x6)]) C.1 C.2.1 dL_law_679 hl (k := 8) rfl (inc1 hx11_68) (by decide) rfl (fun ls hl => ?_)
  refine lv_goto (tgt := 425) C.1 C.2.1 dL_law_682 (by decide) ?_
  exact hk425 S T x9_65 x10_67 x11_68 hf cl sl (by omega) _ _ _ hw (lv_sub hl [3, 4, 5, 6, 7, 8, 2, 1, 0] rfl)
def fL_law_649 (L : Nat) (xs : Nat → Int32) (x3 : Int32) (x5 : Int32) (x6 : Int32) (k22 : St → St → Int32 → Option Unit) (k425 : St → St → Int32 → Int32 → Int32 → Option Unit) (S : St) (T : St) (x9 : Int32) (x10 : Int32) (x11 : Int32) : Option Unit :=
  Option.bind (fX3_vividnessOf S x11) fun v_49 =>
  if v_49 = 0 then
    fL_law_665 L xs x3 x5 x6 k22 k425 S T x10 x11 x9 1
  else
    fL_law_665 L xs x3 x5 x6 k22 k425 S T x10 x11 x9 0
set_option maxHeartbeats 4000000 in
set_option maxRecDepth 100000 in
theorem wL_law_649 {p : Program} {l : Launch} {e : Env} {s : State} {m : MethodId} {below : List Frame} {meth : Method} {c : Code} {b L : Nat} {xs : Nat → Int32} {D : va_G} {k : Nat → ClassId} {qx r : Nat → Nat} (C : Ctx p s m #[Value.ref b] meth c cL_law 17 RL ret) (E : gEL D k s) (hX : va_X b L xs s s.heap) (hbl : b < s.heap.size) (hL : L ≤ 260) {r1 : Unit} (x3 : Int32) (x5 : Int32) (x6 : Int32) (M SM : Nat) (hM : M ≤ 30200 ∧ SM ≤ 724800) (k22 : St → St → Int32 → Option Unit) (hk22 : ∀ (S : St) (T : St) (x3 : Int32), k22 S T x3 = some r1 → ∀ (cl sl : Nat), cl ≤ M ∧ sl ≤ SM → ∀ (H : Heap) (locs : List Loc) (ls : Array Slot), gS D [] k qx r S T [] s H locs → lv_has ls 17 [(0, .ref (b)), (1, .ref (qx 0)), (2, .ref (r 0)), (3, .int x3)] → W p l e room_1 s m #[Value.ref b] below meth c H locs cl sl (lw_Z below #[Value.ref b] s) (F0 m 22 ls [])) (k425 : St → St → Int32 → Int32 → Int32 → Option Unit) (hk425 : ∀ (S : St) (T : St) (x9 : Int32) (x10 : Int32) (x11 : Int32), k425 S T x9 x10 x11 = some r1 → ∀ (cl sl : Nat), cl ≤ M ∧ sl ≤ SM → ∀ (H : Heap) (locs : List Loc) (ls : Array Slot), gS D [] k qx r S T [] s H locs → lv_has ls 17 [(0, .ref (b)), (1, .ref (qx 0)), (2, .ref (r 0)), (3, .int x3), (5, .int x5), (6, .int x6), (9, .int x9), (10, .int x10), (11, .int x11)] → W p l e room_1 s m #[Value.ref b] below meth c H locs cl sl (lw_Z below #[Value.ref b] s) (F0 m 425 ls [])) : ∀ (S : St) (T : St) (x9 : Int32) (x10 : Int32) (x11 : Int32), fL_law_649 L xs x3 x5 x6 k22 k425 S T x9 x10 x11 = some r1 → ∀ (cl sl : Nat), cl ≤ M ∧ sl ≤ SM → ∀ (H : Heap) (locs : List Loc) (ls : Array Slot), gS D [] k qx r S T [] s H locs → lv_has ls 17 [(0, .ref (b)), (1, .ref (qx 0)), (2, .ref (r 0)), (3, .int x3), (5, .int x5), (6, .int x6), (9, .int x9), (10, .int x10), (11, .int x11)] → W p l e room_1 s m #[Value.ref b] below meth c H locs cl sl (lw_Z below #[Value.ref b] s) (F0 m 649 ls []) := by
  intro S T x9 x10 x11 hf cl sl hcl H locs ls hw hl
  unfold fL_law_649 at hf
  refine lv_iload C.1 C.2.1 dL_law_649 (lv_at hl 6 rfl) ?_
  refine lv_aload_n C.1 C.2.1 dL_law_651 rfl (lv_at hl 1 rfl) ?_
  refine lv_iload C.1 C.2.1 dL_law_652 (lv_at hl 8 rfl) ?_
  obtain ⟨v_49, hv_49, hf⟩ := bnd hf
  refine l_xi (rm := ({ frames := 1, cells := 0, slots := 0, locals := 21 } : Room)) (As := [.int x11]) (rest := [.int x9]) C E hw F_X3_vividnessOf rfl (fun _ => ctX3_vividnessOf l (cI := k 0) (D := D) (q := qx) S x11 _ hv_49) km_L_151 rfl hl.1 rfl (Nat.le_of_ble_eq_true rfl) ⟨(Nat.le_of_ble_eq_true rfl), (Nat.le_of_ble_eq_true rfl)⟩ ⟨(by omega : cl + 0 ≤ 600130), (by omega : sl + 0 ≤ 7301080)⟩ dL_law_654 (fun H locs hw => ?_)
  refine W.cs (cells' := cl) (slots' := sl) rfl rfl ?_
  refine lv_if_ne (tgt := 664) C.1 C.2.1 dL_law_657 (by decide) (fun hc => ?_) (fun hc => ?_)
  · have hf := iff_ hc hf
    refine lv_iconst (v := 0) C.1 C.2.1 dL_law_664 (by decide) ?_
    exact wL_law_665 C E hX hbl hL x3 x5 x6 M SM hM k22 hk22 k425 hk425 S T x10 x11 x9 0 hf cl sl (by omega) _ _ _ hw (lv_sub hl [0, 1, 2, 3, 4, 5, 7, 8] rfl)
  · have hf := ift hc hf
    refine lv_iconst (v := 1) C.1 C.2.1 dL_law_660 (by decide) ?_
    refine lv_goto (tgt := 665) C.1 C.2.1 dL_law_661 (by decide) ?_
    exact wL_law_665 C E hX hbl hL x3 x5 x6 M SM hM k22 hk22 k425 hk425 S T x10 x11 x9 1 hf cl sl (by omega) _ _ _ hw (lv_sub hl [0, 1, 2, 3, 4, 5, 7, 8] rfl)
def fL_law_550 (L : Nat) (xs : Nat → Int32) (x3 : Int32) (x5 : Int32) (x6 : Int32) (x9 : Int32) (x10 : Int32) (x11 : Int32) (k22 : St → St → Int32 → Option Unit) (k425 : St → St → Int32 → Int32 → Int32 → Option Unit) (k441 : St → St → Int32 → Int32 → Int32 → Option Unit) (S : St) (T : St) (x13 : Int32) (x14 : Int32) (t0 : Int32) (t1 : Int32) : Option Unit :=
  Option.bind (some ((t0 + t1))) fun x12_72 =>
  Option.bind (some (x14 + 1)) fun x14_73 =>
  k441 S T x12_72 x13 x14_73
set_option maxHeartbeats 4000000 in
set_option maxRecDepth 100000 in
theorem wL_law_550 {p : Program} {l : Launch} {e : Env} {s : State} {m : MethodId} {below : List Frame} {meth : Method} {c : Code} {b L : Nat} {xs : Nat → Int32} {D : va_G} {k : Nat → ClassId} {qx r : Nat → Nat} (C : Ctx p s m #[Value.ref b] meth c cL_law 17 RL ret) (E : gEL D k s) (hX : va_X b L xs s s.heap) (hbl : b < s.heap.size) (hL : L ≤ 260) {r1 : Unit} (x3 : Int32) (x5 : Int32) (x6 : Int32) (x9 : Int32) (x10 : Int32) (x11 : Int32) (M SM : Nat) (hM : M ≤ 30200 ∧ SM ≤ 724800) (k22 : St → St → Int32 → Option Unit) (hk22 : ∀ (S : St) (T : St) (x3 : Int32), k22 S T x3 = some r1 → ∀ (cl sl : Nat), cl ≤ M ∧ sl ≤ SM → ∀ (H : Heap) (locs : List Loc) (ls : Array Slot), gS D [] k qx r S T [] s H locs → lv_has ls 17 [(0, .ref (b)), (1, .ref (qx 0)), (2, .ref (r 0)), (3, .int x3)] → W p l e room_1 s m #[Value.ref b] below meth c H locs cl sl (lw_Z below #[Value.ref b] s) (F0 m 22 ls [])) (k425 : St → St → Int32 → Int32 → Int32 → Option Unit) (hk425 : ∀ (S : St) (T : St) (x9 : Int32) (x10 : Int32) (x11 : Int32), k425 S T x9 x10 x11 = some r1 → ∀ (cl sl : Nat), cl ≤ M ∧ sl ≤ SM → ∀ (H : Heap) (locs : List Loc) (ls : Array Slot), gS D [] k qx r S T [] s H locs → lv_has ls 17 [(0, .ref (b)), (1, .ref (qx 0)), (2, .ref (r 0)), (3, .int x3), (5, .int x5), (6, .int x6), (9, .int x9), (10, .int x10), (11, .int x11)] → W p l e room_1 s m #[Value.ref b] below meth c H locs cl sl (lw_Z below #[Value.ref b] s) (F0 m 425 ls [])) (k441 : St → St → Int32 → Int32 → Int32 → Option Unit) (hk441 : ∀ (S : St) (T : St) (x12 : Int32) (x13 : Int32) (x14 : Int32), k441 S T x12 x13 x14 = some r1 → ∀ (cl sl : Nat), cl ≤ M ∧ sl ≤ SM → ∀ (H : Heap) (locs : List Loc) (ls : Array Slot), gS D [] k qx r S T [] s H locs → lv_has ls 17 [(0, .ref (b)), (1, .ref (qx 0)), (2, .ref (r 0)), (3, .int x3), (5, .int x5), (6, .int x6), (9, .int x9), (10, .int x10), (11, .int x11), (12, .int x12), (13, .int x13), (14, .int x14)] → W p l e room_1 s m #[Value.ref b] below meth c H locs cl sl (lw_Z below #[Value.ref b] s) (F0 m 441 ls [])) : ∀ (S : St) (T : St) (x13 : Int32) (x14 : Int32) (t0 : Int32) (t1 : Int32), fL_law_550 L xs x3 x5 x6 x9 x10 x11 k22 k425 k441 S T x13 x14 t0 t1 = some r1 → ∀ (cl sl : Nat), cl ≤ M ∧ sl ≤ SM → ∀ (H : Heap) (locs : List Loc) (ls : Array Slot), gS D [] k qx r S T [] s H locs → lv_has ls 17 [(0, .ref (b)), (1, .ref (qx 0)), (2, .ref (r 0)), (3, .int x3), (5, .int x5), (6, .int x6), (9, .int x9), (10, .int x10), (11, .int x11), (13, .int x13), (14, .int x14)] → W p l e room_1 s m #[Value.ref b] below meth c H locs cl sl (lw_Z below #[Value.ref b] s) (F0 m 550 ls [.int t1, .int t0]) := by
  intro S T x13 x14 t0 t1 hf cl sl hcl H locs ls hw hl
  unfold fL_law_550 at hf
  refine lv_iadd C.1 C.2.1 dL_law_550 ?_
  obtain ⟨x12_72, hx12_72, hf⟩ := bnd hf
  refine topi_b hx12_72 ?_
  refine lv_istore (lv' := [(12, .int x12_72), (0, .ref (b)), (1, .ref (qx 0)), (2, .ref (r 0)), (3, .int x3), (5, .int x5), (6, .int x6), (9, .int x9), (10, .int x10), (11, .int x11), (13, .int x13), (14, .int x14)]) C.1 C.2.1 dL_law_551 hl (by decide) rfl (fun ls hl => ?_)
  obtain ⟨x14_73, hx14_73, hf⟩ := bnd hf
  refine lv_iinc (v := x14_73) (lv' := [(14, .int x14_73), (12, .int x12_72), (0, .ref (b)), (1, .ref (qx 0)), (2, .ref (r 0)), (3, .int x3), (5, .int x5), (6, .int x6), (9, .int x9), (10, .int x10), (11, .int x11), (13, .int x13)]) C.1 C.2.1 dL_law_553 hl (k := 11) rfl (inc1 hx14_73) (by decide) rfl (fun ls hl => ?_)
  refine lv_goto (tgt := 441) C.1 C.2.1 dL_law_556 (by decide) ?_
  exact hk441 S T x12_72 x13 x14_73 hf cl sl (by omega) _ _ _ hw (lv_sub hl [2, 3, 4, 5, 6, 7, 8, 9, 10, 1, 11, 0] rfl)
def fL_law_510 (L : Nat) (xs : Nat → Int32) (x3 : Int32) (x5 : Int32) (x6 : Int32) (x9 : Int32) (x10 : Int32) (x11 : Int32) (x12 : Int32) (x13 : Int32) (x14 : Int32) (k22 : St → St → Int32 → Option Unit) (k425 : St → St → Int32 → Int32 → Int32 → Option Unit) (k441 : St → St → Int32 → Int32 → Int32 → Option Unit) (k476 : St → St → Int32 → Int32 → Option Unit) (S : St) (T : St) (x16 : Int32) : Option Unit :=
  Option.bind (some (x16 + 1)) fun x16_74 =>
  k476 S T 1 x16_74
set_option maxHeartbeats 4000000 in
set_option maxRecDepth 100000 in
theorem wL_law_510 {p : Program} {l : Launch} {e : Env} {s : State} {m : MethodId} {below : List Frame} {meth : Method} {c : Code} {b L : Nat} {xs : Nat → Int32} {D : va_G} {k : Nat → ClassId} {qx r : Nat → Nat} (C : Ctx p s m #[Value.ref b] meth c cL_law 17 RL ret) (E : gEL D k s) (hX : va_X b L xs s s.heap) (hbl : b < s.heap.size) (hL : L ≤ 260) {r1 : Unit} (x3 : Int32) (x5 : Int32) (x6 : Int32) (x9 : Int32) (x10 : Int32) (x11 : Int32) (x12 : Int32) (x13 : Int32) (x14 : Int32) (M SM : Nat) (hM : M ≤ 30200 ∧ SM ≤ 724800) (k22 : St → St → Int32 → Option Unit) (hk22 : ∀ (S : St) (T : St) (x3 : Int32), k22 S T x3 = some r1 → ∀ (cl sl : Nat), cl ≤ M ∧ sl ≤ SM → ∀ (H : Heap) (locs : List Loc) (ls : Array Slot), gS D [] k qx r S T [] s H locs → lv_has ls 17 [(0, .ref (b)), (1, .ref (qx 0)), (2, .ref (r 0)), (3, .int x3)] → W p l e room_1 s m #[Value.ref b] below meth c H locs cl sl (lw_Z below #[Value.ref b] s) (F0 m 22 ls [])) (k425 : St → St → Int32 → Int32 → Int32 → Option Unit) (hk425 : ∀ (S : St) (T : St) (x9 : Int32) (x10 : Int32) (x11 : Int32), k425 S T x9 x10 x11 = some r1 → ∀ (cl sl : Nat), cl ≤ M ∧ sl ≤ SM → ∀ (H : Heap) (locs : List Loc) (ls : Array Slot), gS D [] k qx r S T [] s H locs → lv_has ls 17 [(0, .ref (b)), (1, .ref (qx 0)), (2, .ref (r 0)), (3, .int x3), (5, .int x5), (6, .int x6), (9, .int x9), (10, .int x10), (11, .int x11)] → W p l e room_1 s m #[Value.ref b] below meth c H locs cl sl (lw_Z below #[Value.ref b] s) (F0 m 425 ls [])) (k441 : St → St → Int32 → Int32 → Int32 → Option Unit) (hk441 : ∀ (S : St) (T : St) (x12 : Int32) (x13 : Int32) (x14 : Int32), k441 S T x12 x13 x14 = some r1 → ∀ (cl sl : Nat), cl ≤ M ∧ sl ≤ SM → ∀ (H : Heap) (locs : List Loc) (ls : Array Slot), gS D [] k qx r S T [] s H locs → lv_has ls 17 [(0, .ref (b)), (1, .ref (qx 0)), (2, .ref (r 0)), (3, .int x3), (5, .int x5), (6, .int x6), (9, .int x9), (10, .int x10), (11, .int x11), (12, .int x12), (13, .int x13), (14, .int x14)] → W p l e room_1 s m #[Value.ref b] below meth c H locs cl sl (lw_Z below #[Value.ref b] s) (F0 m 441 ls [])) (k476 : St → St → Int32 → Int32 → Option Unit) (hk476 : ∀ (S : St) (T : St) (x15 : Int32) (x16 : Int32), k476 S T x15 x16 = some r1 → ∀ (cl sl : Nat), cl ≤ M ∧ sl ≤ SM → ∀ (H : Heap) (locs : List Loc) (ls : Array Slot), gS D [] k qx r S T [] s H locs → lv_has ls 17 [(0, .ref (b)), (1, .ref (qx 0)), (2, .ref (r 0)), (3, .int x3), (5, .int x5), (6, .int x6), (9, .int x9), (10, .int x10), (11, .int x11), (12, .int x12), (13, .int x13), (14, .int x14), (15, .int x15), (16, .int x16)] → W p l e room_1 s m #[Value.ref b] below meth c H locs cl sl (lw_Z below #[Value.ref b] s) (F0 m 476 ls [])) : ∀ (S : St) (T : St) (x16 : Int32), fL_law_510 L xs x3 x5 x6 x9 x10 x11 x12 x13 x14 k22 k425 k441 k476 S T x16 = some r1 → ∀ (cl sl : Nat), cl ≤ M ∧ sl ≤ SM → ∀ (H : Heap) (locs : List Loc) (ls : Array Slot), gS D [] k qx r S T [] s H locs → lv_has ls 17 [(0, .ref (b)), (1, .ref (qx 0)), (2, .ref (r 0)), (3, .int x3), (5, .int x5), (6, .int x6), (9, .int x9), (10, .int x10), (11, .int x11), (12, .int x12), (13, .int x13), (14, .int x14), (16, .int x16)] → W p l e room_1 s m #[Value.ref b] below meth c H locs cl sl (lw_Z below #[Value.ref b] s) (F0 m 510 ls []) := by
  intro S T x16 hf cl sl hcl H locs ls hw hl
  unfold fL_law_510 at hf
  refine lv_iconst (v := 1) C.1 C.2.1 dL_law_510 (by decide) ?_
  refine lv_goto (tgt := 515) C.1 C.2.1 dL_law_511 (by decide) ?_
  refine lv_istore (lv' := [(15, .int 1), (0, .ref (b)), (1, .ref (qx 0)), (2, .ref (r 0)), (3, .int x3), (5, .int x5), (6, .int x6), (9, .int x9), (10, .int x10), (11, .int x11), (12, .int x12), (13, .int x13), (14, .int x14), (16, .int x16)]) C.1 C.2.1 dL_law_515 hl (by decide) rfl (fun ls hl => ?_)
  obtain ⟨x16_74, hx16_74, hf⟩ := bnd hf
  refine lv_iinc (v := x16_74) (lv' := [(16, .int x16_74), (15, .int 1), (0, .ref (b)), (1, .ref (qx 0)), (2, .ref (r 0)), (3, .int x3), (5, .int x5), (6, .int x6), (9, .int x9), (10, .int x10), (11, .int x11), (12, .int x12), (13, .int x13), (14, .int x14)]) C.1 C.2.1 dL_law_517 hl (k := 13) rfl (inc1 hx16_74) (by decide) rfl (fun ls hl => ?_)
  refine lv_goto (tgt := 476) C.1 C.2.1 dL_law_520 (by decide) ?_
  exact hk476 S T 1 x16_74 hf cl sl (by omega) _ _ _ hw (lv_sub hl [2, 3, 4, 5, 6, 7, 8, 9, 10, 11, 12, 13, 1, 0] rfl)
def fL_law_514 (L : Nat) (xs : Nat → Int32) (x3 : Int32) (x5 : Int32) (x6 : Int32) (x9 : Int32) (x10 : Int32) (x11 : Int32) (x12 : Int32) (x13 : Int32) (x14 : Int32) (k22 : St → St → Int32 → Option Unit) (k425 : St → St → Int32 → Int32 → Int32 → Option Unit) (k441 : St → St → Int32 → Int32 → Int32 → Option Unit) (k476 : St → St → Int32 → Int32 → Option Unit) (S : St) (T : St) (x16 : Int32) : Option Unit :=
  Option.bind (some (x16 + 1)) fun x16_75 =>
  k476 S T 0 x16_75
set_option maxHeartbeats 4000000 in
set_option maxRecDepth 100000 in
theorem wL_law_514 {p : Program} {l : Launch} {e : Env} {s : State} {m : MethodId} {below : List Frame} {meth : Method} {c : Code} {b L : Nat} {xs : Nat → Int32} {D : va_G} {k : Nat → ClassId} {qx r : Nat → Nat} (C : Ctx p s m #[Value.ref b] meth c cL_law 17 RL ret) (E : gEL D k s) (hX : va_X b L xs s s.heap) (hbl : b < s.heap.size) (hL : L ≤ 260) {r1 : Unit} (x3 : Int32) (x5 : Int32) (x6 : Int32) (x9 : Int32) (x10 : Int32) (x11 : Int32) (x12 : Int32) (x13 : Int32) (x14 : Int32) (M SM : Nat) (hM : M ≤ 30200 ∧ SM ≤ 724800) (k22 : St → St → Int32 → Option Unit) (hk22 : ∀ (S : St) (T : St) (x3 : Int32), k22 S T x3 = some r1 → ∀ (cl sl : Nat), cl ≤ M ∧ sl ≤ SM → ∀ (H : Heap) (locs : List Loc) (ls : Array Slot), gS D [] k qx r S T [] s H locs → lv_has ls 17 [(0, .ref (b)), (1, .ref (qx 0)), (2, .ref (r 0)), (3, .int x3)] → W p l e room_1 s m #[Value.ref b] below meth c H locs cl sl (lw_Z below #[Value.ref b] s) (F0 m 22 ls [])) (k425 : St → St → Int32 → Int32 → Int32 → Option Unit) (hk425 : ∀ (S : St) (T : St) (x9 : Int32) (x10 : Int32) (x11 : Int32), k425 S T x9 x10 x11 = some r1 → ∀ (cl sl : Nat), cl ≤ M ∧ sl ≤ SM → ∀ (H : Heap) (locs : List Loc) (ls : Array Slot), gS D [] k qx r S T [] s H locs → lv_has ls 17 [(0, .ref (b)), (1, .ref (qx 0)), (2, .ref (r 0)), (3, .int x3), (5, .int x5), (6, .int x6), (9, .int x9), (10, .int x10), (11, .int x11)] → W p l e room_1 s m #[Value.ref b] below meth c H locs cl sl (lw_Z below #[Value.ref b] s) (F0 m 425 ls [])) (k441 : St → St → Int32 → Int32 → Int32 → Option Unit) (hk441 : ∀ (S : St) (T : St) (x12 : Int32) (x13 : Int32) (x14 : Int32), k441 S T x12 x13 x14 = some r1 → ∀ (cl sl : Nat), cl ≤ M ∧ sl ≤ SM → ∀ (H : Heap) (locs : List Loc) (ls : Array Slot), gS D [] k qx r S T [] s H locs → lv_has ls 17 [(0, .ref (b)), (1, .ref (qx 0)), (2, .ref (r 0)), (3, .int x3), (5, .int x5), (6, .int x6), (9, .int x9), (10, .int x10), (11, .int x11), (12, .int x12), (13, .int x13), (14, .int x14)] → W p l e room_1 s m #[Value.ref b] below meth c H locs cl sl (lw_Z below #[Value.ref b] s) (F0 m 441 ls [])) (k476 : St → St → Int32 → Int32 → Option Unit) (hk476 : ∀ (S : St) (T : St) (x15 : Int32) (x16 : Int32), k476 S T x15 x16 = some r1 → ∀ (cl sl : Nat), cl ≤ M ∧ sl ≤ SM → ∀ (H : Heap) (locs : List Loc) (ls : Array Slot), gS D [] k qx r S T [] s H locs → lv_has ls 17 [(0, .ref (b)), (1, .ref (qx 0)), (2, .ref (r 0)), (3, .int x3), (5, .int x5), (6, .int x6), (9, .int x9), (10, .int x10), (11, .int x11), (12, .int x12), (13, .int x13), (14, .int x14), (15, .int x15), (16, .int x16)] → W p l e room_1 s m #[Value.ref b] below meth c H locs cl sl (lw_Z below #[Value.ref b] s) (F0 m 476 ls [])) : ∀ (S : St) (T : St) (x16 : Int32), fL_law_514 L xs x3 x5 x6 x9 x10 x11 x12 x13 x14 k22 k425 k441 k476 S T x16 = some r1 → ∀ (cl sl : Nat), cl ≤ M ∧ sl ≤ SM → ∀ (H : Heap) (locs : List Loc) (ls : Array Slot), gS D [] k qx r S T [] s H locs → lv_has ls 17 [(0, .ref (b)), (1, .ref (qx 0)), (2, .ref (r 0)), (3, .int x3), (5, .int x5), (6, .int x6), (9, .int x9), (10, .int x10), (11, .int x11), (12, .int x12), (13, .int x13), (14, .int x14), (16, .int x16)] → W p l e room_1 s m #[Value.ref b] below meth c H locs cl sl (lw_Z below #[Value.ref b] s) (F0 m 514 ls []) := by
  intro S T x16 hf cl sl hcl H locs ls hw hl
  unfold fL_law_514 at hf
  refine lv_iconst (v := 0) C.1 C.2.1 dL_law_514 (by decide) ?_
  refine lv_istore (lv' := [(15, .int 0), (0, .ref (b)), (1, .ref (qx 0)), (2, .ref (r 0)), (3, .int x3), (5, .int x5), (6, .int x6), (9, .int x9), (10, .int x10), (11, .int x11), (12, .int x12), (13, .int x13), (14, .int x14), (16, .int x16)]) C.1 C.2.1 dL_law_515 hl (by decide) rfl (fun ls hl => ?_)
  obtain ⟨x16_75, hx16_75, hf⟩ := bnd hf
  refine lv_iinc (v := x16_75) (lv' := [(16, .int x16_75), (15, .int 0), (0, .ref (b)), (1, .ref (qx 0)), (2, .ref (r 0)), (3, .int x3), (5, .int x5), (6, .int x6), (9, .int x9), (10, .int x10), (11, .int x11), (12, .int x12), (13, .int x13), (14, .int x14)]) C.1 C.2.1 dL_law_517 hl (k := 13) rfl (inc1 hx16_75) (by decide) rfl (fun ls hl => ?_)
  refine lv_goto (tgt := 476) C.1 C.2.1 dL_law_520 (by decide) ?_
  exact hk476 S T 0 x16_75 hf cl sl (by omega) _ _ _ hw (lv_sub hl [2, 3, 4, 5, 6, 7, 8, 9, 10, 11, 12, 13, 1, 0] rfl)
def fL_law_476 (L : Nat) (xs : Nat → Int32) (x3 : Int32) (x5 : Int32) (x6 : Int32) (x9 : Int32) (x10 : Int32) (x11 : Int32) (x12 : Int32) (x13 : Int32) (x14 : Int32) (k22 : St → St → Int32 → Option Unit) (k425 : St → St → Int32 → Int32 → Int32 → Option Unit) (k441 : St → St → Int32 → Int32 → Int32 → Option Unit) : Nat → St → St → Int32 → Int32 → Option Unit
  | 0, _, _, _, _ => none
  | n + 1, S, T, x15, x16 =>
    if x5 ≤ x16 then
      Option.bind (fX3_hasTag S x11 x14) fun v_69 =>
      if v_69 = x15 then
        if x15 = 0 then
          fL_law_550 L xs x3 x5 x6 x9 x10 x11 k22 k425 k441 S T x13 x14 x12 0
        else
          fL_law_550 L xs x3 x5 x6 x9 x10 x11 k22 k425 k441 S T x13 x14 x12 1
      else
        none
    else
      if x15 = 0 then
        Option.bind (fX3_hasOwnTag S x11 x16) fun v_70 =>
        if v_70 = 0 then
          fL_law_514 L xs x3 x5 x6 x9 x10 x11 x12 x13 x14 k22 k425 k441 (fL_law_476 L xs x3 x5 x6 x9 x10 x11 x12 x13 x14 k22 k425 k441 n) S T x16
        else
          Option.bind (fX3_isBelow S x16 x14) fun v_71 =>
          if v_71 = 0 then
            fL_law_514 L xs x3 x5 x6 x9 x10 x11 x12 x13 x14 k22 k425 k441 (fL_law_476 L xs x3 x5 x6 x9 x10 x11 x12 x13 x14 k22 k425 k441 n) S T x16
          else
            fL_law_510 L xs x3 x5 x6 x9 x10 x11 x12 x13 x14 k22 k425 k441 (fL_law_476 L xs x3 x5 x6 x9 x10 x11 x12 x13 x14 k22 k425 k441 n) S T x16
      else
        fL_law_510 L xs x3 x5 x6 x9 x10 x11 x12 x13 x14 k22 k425 k441 (fL_law_476 L xs x3 x5 x6 x9 x10 x11 x12 x13 x14 k22 k425 k441 n) S T x16
set_option maxHeartbeats 4000000 in
set_option maxRecDepth 100000 in
theorem wL_law_476 {p : Program} {l : Launch} {e : Env} {s : State} {m : MethodId} {below : List Frame} {meth : Method} {c : Code} {b L : Nat} {xs : Nat → Int32} {D : va_G} {k : Nat → ClassId} {qx r : Nat → Nat} (C : Ctx p s m #[Value.ref b] meth c cL_law 17 RL ret) (E : gEL D k s) (hX : va_X b L xs s s.heap) (hbl : b < s.heap.size) (hL : L ≤ 260) {r1 : Unit} (x3 : Int32) (x5 : Int32) (x6 : Int32) (x9 : Int32) (x10 : Int32) (x11 : Int32) (x12 : Int32) (x13 : Int32) (x14 : Int32) (M SM : Nat) (hM : M ≤ 30200 ∧ SM ≤ 724800) (k22 : St → St → Int32 → Option Unit) (hk22 : ∀ (S : St) (T : St) (x3 : Int32), k22 S T x3 = some r1 → ∀ (cl sl : Nat), cl ≤ M ∧ sl ≤ SM → ∀ (H : Heap) (locs : List Loc) (ls : Array Slot), gS D [] k qx r S T [] s H locs → lv_has ls 17 [(0, .ref (b)), (1, .ref (qx 0)), (2, .ref (r 0)), (3, .int x3)] → W p l e room_1 s m #[Value.ref b] below meth c H locs cl sl (lw_Z below #[Value.ref b] s) (F0 m 22 ls [])) (k425 : St → St → Int32 → Int32 → Int32 → Option Unit) (hk425 : ∀ (S : St) (T : St) (x9 : Int32) (x10 : Int32) (x11 : Int32), k425 S T x9 x10 x11 = some r1 → ∀ (cl sl : Nat), cl ≤ M ∧ sl ≤ SM → ∀ (H : Heap) (locs : List Loc) (ls : Array Slot), gS D [] k qx r S T [] s H locs → lv_has ls 17 [(0, .ref (b)), (1, .ref (qx 0)), (2, .ref (r 0)), (3, .int x3), (5, .int x5), (6, .int x6), (9, .int x9), (10, .int x10), (11, .int x11)] → W p l e room_1 s m #[Value.ref b] below meth c H locs cl sl (lw_Z below #[Value.ref b] s) (F0 m 425 ls [])) (k441 : St → St → Int32 → Int32 → Int32 → Option Unit) (hk441 : ∀ (S : St) (T : St) (x12 : Int32) (x13 : Int32) (x14 : Int32), k441 S T x12 x13 x14 = some r1 → ∀ (cl sl : Nat), cl ≤ M ∧ sl ≤ SM → ∀ (H : Heap) (locs : List Loc) (ls : Array Slot), gS D [] k qx r S T [] s H locs → lv_has ls 17 [(0, .ref (b)), (1, .ref (qx 0)), (2, .ref (r 0)), (3, .int x3), (5, .int x5), (6, .int x6), (9, .int x9), (10, .int x10), (11, .int x11), (12, .int x12), (13, .int x13), (14, .int x14)] → W p l e room_1 s m #[Value.ref b] below meth c H locs cl sl (lw_Z below #[Value.ref b] s) (F0 m 441 ls [])) : ∀ (n : Nat) (S : St) (T : St) (x15 : Int32) (x16 : Int32), fL_law_476 L xs x3 x5 x6 x9 x10 x11 x12 x13 x14 k22 k425 k441 n S T x15 x16 = some r1 → ∀ (cl sl : Nat), cl ≤ M ∧ sl ≤ SM → ∀ (H : Heap) (locs : List Loc) (ls : Array Slot), gS D [] k qx r S T [] s H locs → lv_has ls 17 [(0, .ref (b)), (1, .ref (qx 0)), (2, .ref (r 0)), (3, .int x3), (5, .int x5), (6, .int x6), (9, .int x9), (10, .int x10), (11, .int x11), (12, .int x12), (13, .int x13), (14, .int x14), (15, .int x15), (16, .int x16)] → W p l e room_1 s m #[Value.ref b] below meth c H locs cl sl (lw_Z below #[Value.ref b] s) (F0 m 476 ls []) := by
  intro n
  induction n with
  | zero => intro S T x15 x16 hf; rw [fL_law_476] at hf; cases hf
  | succ n ih =>
    intro S T x15 x16 hf cl sl hcl H locs ls hw hl
    rw [fL_law_476] at hf
    refine lv_iload C.1 C.2.1 dL_law_476 (lv_at hl 13 rfl) ?_
    refine lv_iload C.1 C.2.1 dL_law_478 (lv_at hl 4 rfl) ?_
    refine lv_icmp_ge (tgt := 523) C.1 C.2.1 dL_law_480 (by decide) (fun hc => ?_) (fun hc => ?_)
    · have hf := ift hc hf
      refine lv_aload_n C.1 C.2.1 dL_law_523 rfl (lv_at hl 1 rfl) ?_
      refine lv_iload C.1 C.2.1 dL_law_524 (lv_at hl 8 rfl) ?_
      refine lv_iload C.1 C.2.1 dL_law_526 (lv_at hl 11 rfl) ?_
      obtain ⟨v_69, hv_69, hf⟩ := bnd hf
      refine l_xi (rm := ({ frames := 1, cells := 0, slots := 0, locals := 21 } : Room)) (As := [.int x11, .int x14]) (rest := []) C E hw F_X3_hasTag rfl (fun _ => ctX3_hasTag l (cI := k 0) (D := D) (q := qx) S x11 x14 _ hv_69) km_L_145 rfl hl.1 rfl (Nat.le_of_ble_eq_true rfl) ⟨(Nat.le_of_ble_eq_true rfl), (Nat.le_of_ble_eq_true rfl)⟩ ⟨(by omega : cl + 0 ≤ 600130), (by omega : sl + 0 ≤ 7301080)⟩ dL_law_528 (fun H locs hw => ?_)
      refine W.cs (cells' := cl) (slots' := sl) rfl rfl ?_
      refine lv_iload C.1 C.2.1 dL_law_531 (lv_at hl 12 rfl) ?_
      refine lv_icmp_eq (tgt := 538) C.1 C.2.1 dL_law_533 (by decide) (fun hc => ?_) (fun hc => ?_)
      · have hf := ift hc hf
        refine lv_iload C.1 C.2.1 dL_law_538 (lv_at hl 9 rfl) ?_
        refine lv_iload C.1 C.2.1 dL_law_540 (lv_at hl 12 rfl) ?_
        refine lv_if_eq (tgt := 549) C.1 C.2.1 dL_law_542 (by decide) (fun hc => ?_) (fun hc => ?_)
        · have hf := ift hc hf
          refine lv_iconst (v := 0) C.1 C.2.1 dL_law_549 (by decide) ?_
          exact wL_law_550 C E hX hbl hL x3 x5 x6 x9 x10 x11 M SM hM k22 hk22 k425 hk425 k441 hk441 S T x13 x14 x12 0 hf cl sl (by omega) _ _ _ hw (lv_sub hl [0, 1, 2, 3, 4, 5, 6, 7, 8, 10, 11] rfl)
        · have hf := iff_ hc hf
          refine lv_iconst (v := 1) C.1 C.2.1 dL_law_545 (by decide) ?_
          refine lv_goto (tgt := 550) C.1 C.2.1 dL_law_546 (by decide) ?_
          exact wL_law_550 C E hX hbl hL x3 x5 x6 x9 x10 x11 M SM hM k22 hk22 k425 hk425 k441 hk441 S T x13 x14 x12 1 hf cl sl (by omega) _ _ _ hw (lv_sub hl [0, 1, 2, 3, 4, 5, 6, 7, 8, 10, 11] rfl)
      · have hf := iff_ hc hf
        refine lv_iconst (v := 0) C.1 C.2.1 dL_law_536 (by decide) ?_
        cases hf
    · have hf := iff_ hc hf
      refine lv_iload C.1 C.2.1 dL_law_483 (lv_at hl 12 rfl) ?_
      refine lv_if_ne (tgt := 510) C.1 C.2.1 dL_law_485 (by decide) (fun hc => ?_) (fun hc => ?_)
      · have hf := iff_ hc hf
        exact wL_law_510 C E hX hbl hL x3 x5 x6 x9 x10 x11 x12 x13 x14 M SM hM k22 hk22 k425 hk425 k441 hk441 (fL_law_476 L xs x3 x5 x6 x9 x10 x11 x12 x13 x14 k22 k425 k441 n) ih S T x16 hf cl sl (by omega) _ _ _ hw (lv_sub hl [0, 1, 2, 3, 4, 5, 6, 7, 8, 9, 10, 11, 13] rfl)
      · have hf := ift hc hf
        refine lv_aload_n C.1 C.2.1 dL_law_488 rfl (lv_at hl 1 rfl) ?_
        refine lv_iload C.1 C.2.1 dL_law_489 (lv_at hl 8 rfl) ?_
        refine lv_iload C.1 C.2.1 dL_law_491 (lv_at hl 13 rfl) ?_
        obtain ⟨v_70, hv_70, hf⟩ := bnd hf
        refine l_xi (rm := ({ frames := 1, cells := 0, slots := 0, locals := 21 } : Room)) (As := [.int x11, .int x16]) (rest := []) C E hw F_X3_hasOwnTag rfl (fun _ => ctX3_hasOwnTag l (cI := k 0) (D := D) (q := qx) S x11 x16 _ hv_70) km_L_142 rfl hl.1 rfl (Nat.le_of_ble_eq_true rfl) ⟨(Nat.le_of_ble_eq_true rfl), (Nat.le_of_ble_eq_true rfl)⟩ ⟨(by omega : cl + 0 ≤ 600130), (by omega : sl + 0 ≤ 7301080)⟩ dL_law_493 (fun H locs hw => ?_)
        refine W.cs (cells' := cl) (slots' := sl) rfl rfl ?_
        refine lv_if_eq (tgt := 514) C.1 C.2.1 dL_law_496 (by decide) (fun hc => ?_) (fun hc => ?_)
        · have hf := ift hc hf
          exact wL_law_514 C E hX hbl hL x3 x5 x6 x9 x10 x11 x12 x13 x14 M SM hM k22 hk22 k425 hk425 k441 hk441 (fL_law_476 L xs x3 x5 x6 x9 x10 x11 x12 x13 x14 k22 k425 k441 n) ih S T x16 hf cl sl (by omega) _ _ _ hw (lv_sub hl [0, 1, 2, 3, 4, 5, 6, 7, 8, 9, 10, 11, 13] rfl)
        · have hf := iff_ hc hf
          refine lv_aload_n C.1 C.2.1 dL_law_499 rfl (lv_at hl 1 rfl) ?_
          refine lv_iload C.1 C.2.1 dL_law_500 (lv_at hl 13 rfl) ?_
          refine lv_iload C.1 C.2.1 dL_law_502 (lv_at hl 11 rfl) ?_
          obtain ⟨v_71, hv_71, hf⟩ := bnd hf
          refine l_xi (rm := ({ frames := 2, cells := 0, slots := 0, locals := 43 } : Room)) (As := [.int x16, .int x14]) (rest := []) C E hw F_X3_isBelow rfl (fun _ => ctX3_isBelow l (cI := k 0) (D := D) (q := qx) S x16 x14 _ hv_71) km_L_128 rfl hl.1 rfl (Nat.le_of_ble_eq_true rfl) ⟨(Nat.le_of_ble_eq_true rfl), (Nat.le_of_ble_eq_true rfl)⟩ ⟨(by omega : cl + 0 ≤ 600130), (by omega : sl + 0 ≤ 7301080)⟩ dL_law_504 (fun H locs hw => ?_)
          refine W.cs (cells' := cl) (slots' := sl) rfl rfl ?_
          refine lv_if_eq (tgt := 514) C.1 C.2.1 dL_law_507 (by decide) (fun hc => ?_) (fun hc => ?_)
          · have hf := ift hc hf
            exact wL_law_514 C E hX hbl hL x3 x5 x6 x9 x10 x11 x12 x13 x14 M SM hM k22 hk22 k425 hk425 k441 hk441 (fL_law_476 L xs x3 x5 x6 x9 x10 x11 x12 x13 x14 k22 k425 k441 n) ih S T x16 hf cl sl (by omega) _ _ _ hw (lv_sub hl [0, 1, 2, 3, 4, 5, 6, 7, 8, 9, 10, 11, 13] rfl)
          · have hf := iff_ hc hf
            exact wL_law_510 C E hX hbl hL x3 x5 x6 x9 x10 x11 x12 x13 x14 M SM hM k22 hk22 k425 hk425 k441 hk441 (fL_law_476 L xs x3 x5 x6 x9 x10 x11 x12 x13 x14 k22 k425 k441 n) ih S T x16 hf cl sl (by omega) _ _ _ hw (lv_sub hl [0, 1, 2, 3, 4, 5, 6, 7, 8, 9, 10, 11, 13] rfl)
def fL_law_470 (L : Nat) (xs : Nat → Int32) (x3 : Int32) (x5 : Int32) (x6 : Int32) (x9 : Int32) (x10 : Int32) (x11 : Int32) (k22 : St → St → Int32 → Option Unit) (k425 : St → St → Int32 → Int32 → Int32 → Option Unit) (k441 : St → St → Int32 → Int32 → Int32 → Option Unit) (S : St) (T : St) (x12 : Int32) (x14 : Int32) (x15 : Int32) (t0 : Int32) (t1 : Int32) : Option Unit :=
  Option.bind (some ((t0 + t1))) fun x13_50 =>
  fL_law_476 L xs x3 x5 x6 x9 x10 x11 x12 x13_50 x14 k22 k425 k441 100 S T x15 0
set_option maxHeartbeats 4000000 in
set_option maxRecDepth 100000 in
theorem wL_law_470 {p : Program} {l : Launch} {e : Env} {s : State} {m : MethodId} {below : List Frame} {meth : Method} {c : Code} {b L : Nat} {xs : Nat → Int32} {D : va_G} {k : Nat → ClassId} {qx r : Nat → Nat} (C : Ctx p s m #[Value.ref b] meth c cL_law 17 RL ret) (E : gEL D k s) (hX : va_X b L xs s s.heap) (hbl : b < s.heap.size) (hL : L ≤ 260) {r1 : Unit} (x3 : Int32) (x5 : Int32) (x6 : Int32) (x9 : Int32) (x10 : Int32) (x11 : Int32) (M SM : Nat) (hM : M ≤ 30200 ∧ SM ≤ 724800) (k22 : St → St → Int32 → Option Unit) (hk22 : ∀ (S : St) (T : St) (x3 : Int32), k22 S T x3 = some r1 → ∀ (cl sl : Nat), cl ≤ M ∧ sl ≤ SM → ∀ (H : Heap) (locs : List Loc) (ls : Array Slot), gS D [] k qx r S T [] s H locs → lv_has ls 17 [(0, .ref (b)), (1, .ref (qx 0)), (2, .ref (r 0)), (3, .int x3)] → W p l e room_1 s m #[Value.ref b] below meth c H locs cl sl (lw_Z below #[Value.ref b] s) (F0 m 22 ls [])) (k425 : St → St → Int32 → Int32 → Int32 → Option Unit) (hk425 : ∀ (S : St) (T : St) (x9 : Int32) (x10 : Int32) (x11 : Int32), k425 S T x9 x10 x11 = some r1 → ∀ (cl sl : Nat), cl ≤ M ∧ sl ≤ SM → ∀ (H : Heap) (locs : List Loc) (ls : Array Slot), gS D [] k qx r S T [] s H locs → lv_has ls 17 [(0, .ref (b)), (1, .ref (qx 0)), (2, .ref (r 0)), (3, .int x3), (5, .int x5), (6, .int x6), (9, .int x9), (10, .int x10), (11, .int x11)] → W p l e room_1 s m #[Value.ref b] below meth c H locs cl sl (lw_Z below #[Value.ref b] s) (F0 m 425 ls [])) (k441 : St → St → Int32 → Int32 → Int32 → Option Unit) (hk441 : ∀ (S : St) (T : St) (x12 : Int32) (x13 : Int32) (x14 : Int32), k441 S T x12 x13 x14 = some r1 → ∀ (cl sl : Nat), cl ≤ M ∧ sl ≤ SM → ∀ (H : Heap) (locs : List Loc) (ls : Array Slot), gS D [] k qx r S T [] s H locs → lv_has ls 17 [(0, .ref (b)), (1, .ref (qx 0)), (2, .ref (r 0)), (3, .int x3), (5, .int x5), (6, .int x6), (9, .int x9), (10, .int x10), (11, .int x11), (12, .int x12), (13, .int x13), (14, .int x14)] → W p l e room_1 s m #[Value.ref b] below meth c H locs cl sl (lw_Z below #[Value.ref b] s) (F0 m 441 ls [])) : ∀ (S : St) (T : St) (x12 : Int32) (x14 : Int32) (x15 : Int32) (t0 : Int32) (t1 : Int32), fL_law_470 L xs x3 x5 x6 x9 x10 x11 k22 k425 k441 S T x12 x14 x15 t0 t1 = some r1 → ∀ (cl sl : Nat), cl ≤ M ∧ sl ≤ SM → ∀ (H : Heap) (locs : List Loc) (ls : Array Slot), gS D [] k qx r S T [] s H locs → lv_has ls 17 [(0, .ref (b)), (1, .ref (qx 0)), (2, .ref (r 0)), (3, .int x3), (5, .int x5), (6, .int x6), (9, .int x9), (10, .int x10), (11, .int x11), (12, .int x12), (14, .int x14), (15, .int x15)] → W p l e room_1 s m #[Value.ref b] below meth c H locs cl sl (lw_Z below #[Value.ref b] s) (F0 m 470 ls [.int t1, .int t0]) := by
  intro S T x12 x14 x15 t0 t1 hf cl sl hcl H locs ls hw hl
  unfold fL_law_470 at hf
  refine lv_iadd C.1 C.2.1 dL_law_470 ?_
  obtain ⟨x13_50, hx13_50, hf⟩ := bnd hf
  refine topi_b hx13_50 ?_
  refine lv_istore (lv' := [(13, .int x13_50), (0, .ref (b)), (1, .ref (qx 0)), (2, .ref (r 0)), (3, .int x3), (5, .int x5), (6, .int x6), (9, .int x9), (10, .int x10), (11, .int x11), (12, .int x12), (14, .int x14), (15, .int x15)]) C.1 C.2.1 dL_law_471 hl (by decide) rfl (fun ls hl => ?_)
  refine lv_iconst (v := 0) C.1 C.2.1 dL_law_473 (by decide) ?_
  refine lv_istore (lv' := [(16, .int 0), (13, .int x13_50), (0, .ref (b)), (1, .ref (qx 0)), (2, .ref (r 0)), (3, .int x3), (5, .int x5), (6, .int x6), (9, .int x9), (10, .int x10), (11, .int x11), (12, .int x12), (14, .int x14), (15, .int x15)]) C.1 C.2.1 dL_law_474 hl (by decide) rfl (fun ls hl => ?_)
  exact wL_law_476 C E hX hbl hL x3 x5 x6 x9 x10 x11 x12 x13_50 x14 M SM hM k22 hk22 k425 hk425 k441 hk441 100 S T x15 0 hf cl sl (by omega) _ _ _ hw (lv_sub hl [2, 3, 4, 5, 6, 7, 8, 9, 10, 11, 1, 12, 13, 0] rfl)
def fL_law_441 (L : Nat) (xs : Nat → Int32) (x3 : Int32) (x5 : Int32) (x6 : Int32) (x9 : Int32) (x10 : Int32) (x11 : Int32) (k22 : St → St → Int32 → Option Unit) (k425 : St → St → Int32 → Int32 → Int32 → Option Unit) : Nat → St → St → Int32 → Int32 → Int32 → Option Unit
  | 0, _, _, _, _, _ => none
  | n + 1, S, T, x12, x13, x14 =>
    if x5 ≤ x14 then
      if x13 < 1 then
        none
      else
        if x12 < x13 then
          none
        else
          Option.bind (fX3_tagsOf S x11) fun v_30 =>
          if v_30 = x12 then
            Option.bind (fX3_vividnessOf S x11) fun v_31 =>
            if v_31 < 0 then
              none
            else
              Option.bind (fX3_vividnessOf S x11) fun v_32 =>
              if 9 < v_32 then
                none
              else
                Option.bind (fX3_nightOf S x11) fun v_33 =>
                if v_33 < 0 then
                  none
                else
                  Option.bind (fX3_nightOf S x11) fun v_34 =>
                  Option.bind (fX3_nights S) fun v_35 =>
                  if v_35 < v_34 then
                    none
                  else
                    if x11 ≤ 0 then
                      fL_law_649 L xs x3 x5 x6 k22 k425 S T x9 x10 x11
                    else
                      Option.bind (fX3_nightOf S x11) fun v_36 =>
                      Option.bind (fX3_nightOf S (x11 - 1)) fun v_37 =>
                      if v_37 ≤ v_36 then
                        fL_law_649 L xs x3 x5 x6 k22 k425 S T x9 x10 x11
                      else
                        none
          else
            none
    else
      Option.bind (fX3_hasOwnTag S x11 x14) fun v_38 =>
      if v_38 = 0 then
        fL_law_470 L xs x3 x5 x6 x9 x10 x11 k22 k425 (fL_law_441 L xs x3 x5 x6 x9 x10 x11 k22 k425 n) S T x12 x14 v_38 x13 0
      else
        fL_law_470 L xs x3 x5 x6 x9 x10 x11 k22 k425 (fL_law_441 L xs x3 x5 x6 x9 x10 x11 k22 k425 n) S T x12 x14 v_38 x13 1
set_option maxHeartbeats 4000000 in
set_option maxRecDepth 100000 in
theorem wL_law_441 {p : Program} {l : Launch} {e : Env} {s : State} {m : MethodId} {below : List Frame} {meth : Method} {c : Code} {b L : Nat} {xs : Nat → Int32} {D : va_G} {k : Nat → ClassId} {qx r : Nat → Nat} (C : Ctx p s m #[Value.ref b] meth c cL_law 17 RL ret) (E : gEL D k s) (hX : va_X b L xs s s.heap) (hbl : b < s.heap.size) (hL : L ≤ 260) {r1 : Unit} (x3 : Int32) (x5 : Int32) (x6 : Int32) (x9 : Int32) (x10 : Int32) (x11 : Int32) (M SM : Nat) (hM : M ≤ 30200 ∧ SM ≤ 724800) (k22 : St → St → Int32 → Option Unit) (hk22 : ∀ (S : St) (T : St) (x3 : Int32), k22 S T x3 = some r1 → ∀ (cl sl : Nat), cl ≤ M ∧ sl ≤ SM → ∀ (H : Heap) (locs : List Loc) (ls : Array Slot), gS D [] k qx r S T [] s H locs → lv_has ls 17 [(0, .ref (b)), (1, .ref (qx 0)), (2, .ref (r 0)), (3, .int x3)] → W p l e room_1 s m #[Value.ref b] below meth c H locs cl sl (lw_Z below #[Value.ref b] s) (F0 m 22 ls [])) (k425 : St → St → Int32 → Int32 → Int32 → Option Unit) (hk425 : ∀ (S : St) (T : St) (x9 : Int32) (x10 : Int32) (x11 : Int32), k425 S T x9 x10 x11 = some r1 → ∀ (cl sl : Nat), cl ≤ M ∧ sl ≤ SM → ∀ (H : Heap) (locs : List Loc) (ls : Array Slot), gS D [] k qx r S T [] s H locs → lv_has ls 17 [(0, .ref (b)), (1, .ref (qx 0)), (2, .ref (r 0)), (3, .int x3), (5, .int x5), (6, .int x6), (9, .int x9), (10, .int x10), (11, .int x11)] → W p l e room_1 s m #[Value.ref b] below meth c H locs cl sl (lw_Z below #[Value.ref b] s) (F0 m 425 ls [])) : ∀ (n : Nat) (S : St) (T : St) (x12 : Int32) (x13 : Int32) (x14 : Int32), fL_law_441 L xs x3 x5 x6 x9 x10 x11 k22 k425 n S T x12 x13 x14 = some r1 → ∀ (cl sl : Nat), cl ≤ M ∧ sl ≤ SM → ∀ (H : Heap) (locs : List Loc) (ls : Array Slot), gS D [] k qx r S T [] s H locs → lv_has ls 17 [(0, .ref (b)), (1, .ref (qx 0)), (2, .ref (r 0)), (3, .int x3), (5, .int x5), (6, .int x6), (9, .int x9), (10, .int x10), (11, .int x11), (12, .int x12), (13, .int x13), (14, .int x14)] → W p l e room_1 s m #[Value.ref b] below meth c H locs cl sl (lw_Z below #[Value.ref b] s) (F0 m 441 ls []) := by
  intro n
  induction n with
  | zero => intro S T x12 x13 x14 hf; rw [fL_law_441] at hf; cases hf
  | succ n ih =>
    intro S T x12 x13 x14 hf cl sl hcl H locs ls hw hl
    rw [fL_law_441] at hf
    refine lv_iload C.1 C.2.1 dL_law_441 (lv_at hl 11 rfl) ?_
    refine lv_iload C.1 C.2.1 dL_law_443 (lv_at hl 4 rfl) ?_
    refine lv_icmp_ge (tgt := 559) C.1 C.2.1 dL_law_445 (by decide) (fun hc => ?_) (fun hc => ?_)
    · have hf := ift hc hf
      refine lv_iload C.1 C.2.1 dL_law_559 (lv_at hl 10 rfl) ?_
      refine lv_iconst (v := 1) C.1 C.2.1 dL_law_561 (by decide) ?_
      refine lv_icmp_lt (tgt := 647) C.1 C.2.1 dL_law_562 (by decide) (fun hc => ?_) (fun hc => ?_)
      · have hf := ift hc hf
        refine lv_iconst (v := 0) C.1 C.2.1 dL_law_647 (by decide) ?_
        cases hf
      · have hf := iff_ hc hf
        refine lv_iload C.1 C.2.1 dL_law_565 (lv_at hl 9 rfl) ?_
        refine lv_iload C.1 C.2.1 dL_law_567 (lv_at hl 10 rfl) ?_
        refine lv_icmp_lt (tgt := 647) C.1 C.2.1 dL_law_569 (by decide) (fun hc => ?_) (fun hc => ?_)
        · have hf := ift hc hf
          refine lv_iconst (v := 0) C.1 C.2.1 dL_law_647 (by decide) ?_
          cases hf
        · have hf := iff_ hc hf
          refine lv_aload_n C.1 C.2.1 dL_law_572 rfl (lv_at hl 1 rfl) ?_
          refine lv_iload C.1 C.2.1 dL_law_573 (lv_at hl 8 rfl) ?_
          obtain ⟨v_30, hv_30, hf⟩ := bnd hf
          refine l_xi (rm := ({ frames := 1, cells := 0, slots := 0, locals := 21 } : Room)) (As := [.int x11]) (rest := []) C E hw F_X3_tagsOf rfl (fun _ => ctX3_tagsOf l (cI := k 0) (D := D) (q := qx) S x11 _ hv_30) km_L_148 rfl hl.1 rfl (Nat.le_of_ble_eq_true rfl) ⟨(Nat.le_of_ble_eq_true rfl), (Nat.le_of_ble_eq_true rfl)⟩ ⟨(by omega : cl + 0 ≤ 600130), (by omega : sl + 0 ≤ 7301080)⟩ dL_law_575 (fun H locs hw => ?_)
          refine W.cs (cells' := cl) (slots' := sl) rfl rfl ?_
          refine lv_iload C.1 C.2.1 dL_law_578 (lv_at hl 9 rfl) ?_
          refine lv_icmp_ne (tgt := 647) C.1 C.2.1 dL_law_580 (by decide) (fun hc => ?_) (fun hc => ?_)
          · have hf := iff_ hc hf
            refine lv_iconst (v := 0) C.1 C.2.1 dL_law_647 (by decide) ?_
            cases hf
          · have hf := ift hc hf
            refine lv_aload_n C.1 C.2.1 dL_law_583 rfl (lv_at hl 1 rfl) ?_
            refine lv_iload C.1 C.2.1 dL_law_584 (lv_at hl 8 rfl) ?_
            obtain ⟨v_31, hv_31, hf⟩ := bnd hf
            refine l_xi (rm := ({ frames := 1, cells := 0, slots := 0, locals := 21 } : Room)) (As := [.int x11]) (rest := []) C E hw F_X3_vividnessOf rfl (fun _ => ctX3_vividnessOf l (cI := k 0) (D := D) (q := qx) S x11 _ hv_31) km_L_151 rfl hl.1 rfl (Nat.le_of_ble_eq_true rfl) ⟨(Nat.le_of_ble_eq_true rfl), (Nat.le_of_ble_eq_true rfl)⟩ ⟨(by omega : cl + 0 ≤ 600130), (by omega : sl + 0 ≤ 7301080)⟩ dL_law_586 (fun H locs hw => ?_)
            refine W.cs (cells' := cl) (slots' := sl) rfl rfl ?_
            refine lv_if_lt (tgt := 647) C.1 C.2.1 dL_law_589 (by decide) (fun hc => ?_) (fun hc => ?_)
            · have hf := ift hc hf
              refine lv_iconst (v := 0) C.1 C.2.1 dL_law_647 (by decide) ?_
              cases hf
            · have hf := iff_ hc hf
              refine lv_aload_n C.1 C.2.1 dL_law_592 rfl (lv_at hl 1 rfl) ?_
              refine lv_iload C.1 C.2.1 dL_law_593 (lv_at hl 8 rfl) ?_
              obtain ⟨v_32, hv_32, hf⟩ := bnd hf
              refine l_xi (rm := ({ frames := 1, cells := 0, slots := 0, locals := 21 } : Room)) (As := [.int x11]) (rest := []) C E hw F_X3_vividnessOf rfl (fun _ => ctX3_vividnessOf l (cI := k 0) (D := D) (q := qx) S x11 _ hv_32) km_L_151 rfl hl.1 rfl (Nat.le_of_ble_eq_true rfl) ⟨(Nat.le_of_ble_eq_true rfl), (Nat.le_of_ble_eq_true rfl)⟩ ⟨(by omega : cl + 0 ≤ 600130), (by omega : sl + 0 ≤ 7301080)⟩ dL_law_595 (fun H locs hw => ?_)
              refine W.cs (cells' := cl) (slots' := sl) rfl rfl ?_
              refine lv_bipush (v := 9) C.1 C.2.1 dL_law_598 (by decide) ?_
              refine lv_icmp_gt (tgt := 647) C.1 C.2.1 dL_law_600 (by decide) (fun hc => ?_) (fun hc => ?_)
              · have hf := ift hc hf
                refine lv_iconst (v := 0) C.1 C.2.1 dL_law_647 (by decide) ?_
                cases hf
              · have hf := iff_ hc hf
                refine lv_aload_n C.1 C.2.1 dL_law_603 rfl (lv_at hl 1 rfl) ?_
                refine lv_iload C.1 C.2.1 dL_law_604 (lv_at hl 8 rfl) ?_
                obtain ⟨v_33, hv_33, hf⟩ := bnd hf
                refine l_xi (rm := ({ frames := 1, cells := 0, slots := 0, locals := 21 } : Room)) (As := [.int x11]) (rest := []) C E hw F_X3_nightOf rfl (fun _ => ctX3_nightOf l (cI := k 0) (D := D) (q := qx) S x11 _ hv_33) km_L_154 rfl hl.1 rfl (Nat.le_of_ble_eq_true rfl) ⟨(Nat.le_of_ble_eq_true rfl), (Nat.le_of_ble_eq_true rfl)⟩ ⟨(by omega : cl + 0 ≤ 600130), (by omega : sl + 0 ≤ 7301080)⟩ dL_law_606 (fun H locs hw => ?_)
                refine W.cs (cells' := cl) (slots' := sl) rfl rfl ?_
                refine lv_if_lt (tgt := 647) C.1 C.2.1 dL_law_609 (by decide) (fun hc => ?_) (fun hc => ?_)
                · have hf := ift hc hf
                  refine lv_iconst (v := 0) C.1 C.2.1 dL_law_647 (by decide) ?_
                  cases hf
                · have hf := iff_ hc hf
                  refine lv_aload_n C.1 C.2.1 dL_law_612 rfl (lv_at hl 1 rfl) ?_
                  refine lv_iload C.1 C.2.1 dL_law_613 (lv_at hl 8 rfl) ?_
                  obtain ⟨v_34, hv_34, hf⟩ := bnd hf
                  refine l_xi (rm := ({ frames := 1, cells := 0, slots := 0, locals := 21 } : Room)) (As := [.int x11]) (rest := []) C E hw F_X3_nightOf rfl (fun _ => ctX3_nightOf l (cI := k 0) (D := D) (q := qx) S x11 _ hv_34) km_L_154 rfl hl.1 rfl (Nat.le_of_ble_eq_true rfl) ⟨(Nat.le_of_ble_eq_true rfl), (Nat.le_of_ble_eq_true rfl)⟩ ⟨(by omega : cl + 0 ≤ 600130), (by omega : sl + 0 ≤ 7301080)⟩ dL_law_615 (fun H locs hw => ?_)
                  refine W.cs (cells' := cl) (slots' := sl) rfl rfl ?_
                  refine lv_aload_n C.1 C.2.1 dL_law_618 rfl (lv_at hl 1 rfl) ?_
                  obtain ⟨v_35, hv_35, hf⟩ := bnd hf
                  refine l_xi (rm := ({ frames := 0, cells := 0, slots := 0, locals := 0 } : Room)) (As := []) (rest := [.int v_34]) C E hw F_X3_nights rfl (fun _ => ctX3_nights l (cI := k 0) (D := D) (q := qx) S _ hv_35) km_L_157 rfl hl.1 rfl (Nat.le_of_ble_eq_true rfl) ⟨(Nat.le_of_ble_eq_true rfl), (Nat.le_of_ble_eq_true rfl)⟩ ⟨(by omega : cl + 0 ≤ 600130), (by omega : sl + 0 ≤ 7301080)⟩ dL_law_619 (fun H locs hw => ?_)
                  refine W.cs (cells' := cl) (slots' := sl) rfl rfl ?_
                  refine lv_icmp_gt (tgt := 647) C.1 C.2.1 dL_law_622 (by decide) (fun hc => ?_) (fun hc => ?_)
                  · have hf := ift hc hf
                    refine lv_iconst (v := 0) C.1 C.2.1 dL_law_647 (by decide) ?_
                    cases hf
                  · have hf := iff_ hc hf
                    refine lv_iload C.1 C.2.1 dL_law_625 (lv_at hl 8 rfl) ?_
                    refine lv_if_le (tgt := 649) C.1 C.2.1 dL_law_627 (by decide) (fun hc => ?_) (fun hc => ?_)
                    · have hf := ift hc hf
                      exact wL_law_649 C E hX hbl hL x3 x5 x6 M SM hM k22 hk22 k425 hk425 S T x9 x10 x11 hf cl sl (by omega) _ _ _ hw (lv_sub hl [0, 1, 2, 3, 4, 5, 6, 7, 8] rfl)
                    · have hf := iff_ hc hf
                      refine lv_aload_n C.1 C.2.1 dL_law_630 rfl (lv_at hl 1 rfl) ?_
                      refine lv_iload C.1 C.2.1 dL_law_631 (lv_at hl 8 rfl) ?_
                      obtain ⟨v_36, hv_36, hf⟩ := bnd hf
                      refine l_xi (rm := ({ frames := 1, cells := 0, slots := 0, locals := 21 } : Room)) (As := [.int x11]) (rest := []) C E hw F_X3_nightOf rfl (fun _ => ctX3_nightOf l (cI := k 0) (D := D) (q := qx) S x11 _ hv_36) km_L_154 rfl hl.1 rfl (Nat.le_of_ble_eq_true rfl) ⟨(Nat.le_of_ble_eq_true rfl), (Nat.le_of_ble_eq_true rfl)⟩ ⟨(by omega : cl + 0 ≤ 600130), (by omega : sl + 0 ≤ 7301080)⟩ dL_law_633 (fun H locs hw => ?_)
                      refine W.cs (cells' := cl) (slots' := sl) rfl rfl ?_
                      refine lv_aload_n C.1 C.2.1 dL_law_636 rfl (lv_at hl 1 rfl) ?_
                      refine lv_iload C.1 C.2.1 dL_law_637 (lv_at hl 8 rfl) ?_
                      refine lv_iconst (v := 1) C.1 C.2.1 dL_law_639 (by decide) ?_
                      refine lv_isub C.1 C.2.1 dL_law_640 ?_
                      obtain ⟨v_37, hv_37, hf⟩ := bnd hf
                      refine l_xi (rm := ({ frames := 1, cells := 0, slots := 0, locals := 21 } : Room)) (As := [.int (x11 - 1)]) (rest := [.int v_36]) C E hw F_X3_nightOf rfl (fun _ => ctX3_nightOf l (cI := k 0) (D := D) (q := qx) S (x11 - 1) _ hv_37) km_L_154 rfl hl.1 rfl (Nat.le_of_ble_eq_true rfl) ⟨(Nat.le_of_ble_eq_true rfl), (Nat.le_of_ble_eq_true rfl)⟩ ⟨(by omega : cl + 0 ≤ 600130), (by omega : sl + 0 ≤ 7301080)⟩ dL_law_641 (fun H locs hw => ?_)
                      refine W.cs (cells' := cl) (slots' := sl) rfl rfl ?_
                      refine lv_icmp_ge (tgt := 649) C.1 C.2.1 dL_law_644 (by decide) (fun hc => ?_) (fun hc => ?_)
                      · have hf := ift hc hf
                        exact wL_law_649 C E hX hbl hL x3 x5 x6 M SM hM k22 hk22 k425 hk425 S T x9 x10 x11 hf cl sl (by omega) _ _ _ hw (lv_sub hl [0, 1, 2, 3, 4, 5, 6, 7, 8] rfl)
                      · have hf := iff_ hc hf
                        refine lv_iconst (v := 0) C.1 C.2.1 dL_law_647 (by decide) ?_
                        cases hf
    · have hf := iff_ hc hf
      refine lv_aload_n C.1 C.2.1 dL_law_448 rfl (lv_at hl 1 rfl) ?_
      refine lv_iload C.1 C.2.1 dL_law_449 (lv_at hl 8 rfl) ?_
      refine lv_iload C.1 C.2.1 dL_law_451 (lv_at hl 11 rfl) ?_
      obtain ⟨v_38, hv_38, hf⟩ := bnd hf
      refine l_xi (rm := ({ frames := 1, cells := 0, slots := 0, locals := 21 } : Room)) (As := [.int x11, .int x14]) (rest := []) C E hw F_X3_hasOwnTag rfl (fun _ => ctX3_hasOwnTag l (cI := k 0) (D := D) (q := qx) S x11 x14 _ hv_38) km_L_142 rfl hl.1 rfl (Nat.le_of_ble_eq_true rfl) ⟨(Nat.le_of_ble_eq_true rfl), (Nat.le_of_ble_eq_true rfl)⟩ ⟨(by omega : cl + 0 ≤ 600130), (by omega : sl + 0 ≤ 7301080)⟩ dL_law_453 (fun H locs hw => ?_)
      refine W.cs (cells' := cl) (slots' := sl) rfl rfl ?_
      refine lv_istore (lv' := [(15, .int v_38), (0, .ref (b)), (1, .ref (qx 0)), (2, .ref (r 0)), (3, .int x3), (5, .int x5), (6, .int x6), (9, .int x9), (10, .int x10), (11, .int x11), (12, .int x12), (13, .int x13), (14, .int x14)]) C.1 C.2.1 dL_law_456 hl (by decide) rfl (fun ls hl => ?_)
      refine lv_iload C.1 C.2.1 dL_law_458 (lv_at hl 11 rfl) ?_
      refine lv_iload C.1 C.2.1 dL_law_460 (lv_at hl 0 rfl) ?_
      refine lv_if_eq (tgt := 469) C.1 C.2.1 dL_law_462 (by decide) (fun hc => ?_) (fun hc => ?_)
      · have hf := ift hc hf
        refine lv_iconst (v := 0) C.1 C.2.1 dL_law_469 (by decide) ?_
        exact wL_law_470 C E hX hbl hL x3 x5 x6 x9 x10 x11 M SM hM k22 hk22 k425 hk425 (fL_law_441 L xs x3 x5 x6 x9 x10 x11 k22 k425 n) ih S T x12 x14 v_38 x13 0 hf cl sl (by omega) _ _ _ hw (lv_sub hl [1, 2, 3, 4, 5, 6, 7, 8, 9, 10, 12, 0] rfl)
      · have hf := iff_ hc hf
        refine lv_iconst (v := 1) C.1 C.2.1 dL_law_465 (by decide) ?_
        refine lv_goto (tgt := 470) C.1 C.2.1 dL_law_466 (by decide) ?_
        exact wL_law_470 C E hX hbl hL x3 x5 x6 x9 x10 x11 M SM hM k22 hk22 k425 hk425 (fL_law_441 L xs x3 x5 x6 x9 x10 x11 k22 k425 n) ih S T x12 x14 v_38 x13 1 hf cl sl (by omega) _ _ _ hw (lv_sub hl [1, 2, 3, 4, 5, 6, 7, 8, 9, 10, 12, 0] rfl)
def fL_law_425 (L : Nat) (xs : Nat → Int32) (x3 : Int32) (x5 : Int32) (x6 : Int32) (k22 : St → St → Int32 → Option Unit) : Nat → St → St → Int32 → Int32 → Int32 → Option Unit
  | 0, _, _, _, _, _ => none
  | n + 1, S, T, x9, x10, x11 =>
    if x6 ≤ x11 then
      Option.bind (fX3_fadedDreams S) fun v_18 =>
      if x9 = v_18 then
        Option.bind (fX3_meanVividness S) fun v_19 =>
        if x6 = 0 then
          fL_law_714 L xs k22 S T x3 x5 x6 v_19 0
        else
          Option.bind (dv (FP.i2d x10) (FP.i2d x6)) fun v_20 =>
          fL_law_714 L xs k22 S T x3 x5 x6 v_19 v_20
      else
        none
    else
      fL_law_441 L xs x3 x5 x6 x9 x10 x11 k22 (fL_law_425 L xs x3 x5 x6 k22 n) 100 S T 0 0 0
set_option maxHeartbeats 4000000 in
set_option maxRecDepth 100000 in
theorem wL_law_425 {p : Program} {l : Launch} {e : Env} {s : State} {m : MethodId} {below : List Frame} {meth : Method} {c : Code} {b L : Nat} {xs : Nat → Int32} {D : va_G} {k : Nat → ClassId} {qx r : Nat → Nat} (C : Ctx p s m #[Value.ref b] meth c cL_law 17 RL ret) (E : gEL D k s) (hX : va_X b L xs s s.heap) (hbl : b < s.heap.size) (hL : L ≤ 260) {r1 : Unit} (x3 : Int32) (x5 : Int32) (x6 : Int32) (M SM : Nat) (hM : M ≤ 30200 ∧ SM ≤ 724800) (k22 : St → St → Int32 → Option Unit) (hk22 : ∀ (S : St) (T : St) (x3 : Int32), k22 S T x3 = some r1 → ∀ (cl sl : Nat), cl ≤ M ∧ sl ≤ SM → ∀ (H : Heap) (locs : List Loc) (ls : Array Slot), gS D [] k qx r S T [] s H locs → lv_has ls 17 [(0, .ref (b)), (1, .ref (qx 0)), (2, .ref (r 0)), (3, .int x3)] → W p l e room_1 s m #[Value.ref b] below meth c H locs cl sl (lw_Z below #[Value.ref b] s) (F0 m 22 ls [])) : ∀ (n : Nat) (S : St) (T : St) (x9 : Int32) (x10 : Int32) (x11 : Int32), fL_law_425 L xs x3 x5 x6 k22 n S T x9 x10 x11 = some r1 → ∀ (cl sl : Nat), cl ≤ M ∧ sl ≤ SM → ∀ (H : Heap) (locs : List Loc) (ls : Array Slot), gS D [] k qx r S T [] s H locs → lv_has ls 17 [(0, .ref (b)), (1, .ref (qx 0)), (2, .ref (r 0)), (3, .int x3), (5, .int x5), (6, .int x6), (9, .int x9), (10, .int x10), (11, .int x11)] → W p l e room_1 s m #[Value.ref b] below meth c H locs cl sl (lw_Z below #[Value.ref b] s) (F0 m 425 ls []) := by
  intro n
  induction n with
  | zero => intro S T x9 x10 x11 hf; rw [fL_law_425] at hf; cases hf
  | succ n ih =>
    intro S T x9 x10 x11 hf cl sl hcl H locs ls hw hl
    rw [fL_law_425] at hf
    refine lv_iload C.1 C.2.1 dL_law_425 (lv_at hl 8 rfl) ?_
    refine lv_iload C.1 C.2.1 dL_law_427 (lv_at hl 5 rfl) ?_
    refine lv_icmp_ge (tgt := 685) C.1 C.2.1 dL_law_429 (by decide) (fun hc => ?_) (fun hc => ?_)
    · have hf := ift hc hf
      refine lv_iload C.1 C.2.1 dL_law_685 (lv_at hl 6 rfl) ?_
      refine lv_aload_n C.1 C.2.1 dL_law_687 rfl (lv_at hl 1 rfl) ?_
      obtain ⟨v_18, hv_18, hf⟩ := bnd hf
      refine l_xi (rm := ({ frames := 3, cells := 0, slots := 0, locals := 67 } : Room)) (As := []) (rest := [.int x9]) C E hw F_X3_fadedDreams rfl (fun _ => ctX3_fadedDreams l (cI := k 0) (D := D) (q := qx) S _ hv_18) km_L_159 rfl hl.1 rfl (Nat.le_of_ble_eq_true rfl) ⟨(Nat.le_of_ble_eq_true rfl), (Nat.le_of_ble_eq_true rfl)⟩ ⟨(by omega : cl + 0 ≤ 600130), (by omega : sl + 0 ≤ 7301080)⟩ dL_law_688 (fun H locs hw => ?_)
      refine W.cs (cells' := cl) (slots' := sl) rfl rfl ?_
      refine lv_icmp_ne (tgt := 718) C.1 C.2.1 dL_law_691 (by decide) (fun hc => ?_) (fun hc => ?_)
      · have hf := iff_ hc hf
        refine lv_iconst (v := 0) C.1 C.2.1 dL_law_718 (by decide) ?_
        cases hf
      · have hf := ift hc hf
        refine lv_aload_n C.1 C.2.1 dL_law_694 rfl (lv_at hl 1 rfl) ?_
        obtain ⟨v_19, hv_19, hf⟩ := bnd hf
        refine l_xd (rm := ({ frames := 0, cells := 0, slots := 0, locals := 0 } : Room)) (As := []) (rest := []) C E hw F_X3_meanVividness rfl (fun _ => ctX3_meanVividness l (cI := k 0) (D := D) (q := qx) S _ hv_19) km_L_162 rfl hl.1 rfl (Nat.le_of_ble_eq_true rfl) ⟨(Nat.le_of_ble_eq_true rfl), (Nat.le_of_ble_eq_true rfl)⟩ ⟨(by omega : cl + 0 ≤ 600130), (by omega : sl + 0 ≤ 7301080)⟩ dL_law_695 (fun H locs hw => ?_)
        refine W.cs (cells' := cl) (slots' := sl) rfl rfl ?_
        refine lv_iload C.1 C.2.1 dL_law_698 (lv_at hl 5 rfl) ?_
        refine lv_if_ne (tgt := 707) C.1 C.2.1 dL_law_700 (by decide) (fun hc => ?_) (fun hc => ?_)
        · have hf := iff_ hc hf
          refine lv_iload C.1 C.2.1 dL_law_707 (lv_at hl 7 rfl) ?_
          refine lv_i2d C.1 C.2.1 dL_law_709 ?_
          refine lv_iload C.1 C.2.1 dL_law_710 (lv_at hl 5 rfl) ?_
          refine lv_i2d C.1 C.2.1 dL_law_712 ?_
          obtain ⟨v_20, hv_20, hf⟩ := bnd hf
          refine g_ddiv C hv_20 dL_law_713 ?_
          exact wL_law_714 C E hX hbl hL M SM hM k22 hk22 S T x3 x5 x6 v_19 v_20 hf cl sl (by omega) _ _ _ hw (lv_sub hl [0, 1, 2, 3, 4, 5] rfl)
        · have hf := ift hc hf
          refine g_dconst0 C dL_law_703 ?_
          refine lv_goto (tgt := 714) C.1 C.2.1 dL_law_704 (by decide) ?_
          exact wL_law_714 C E hX hbl hL M SM hM k22 hk22 S T x3 x5 x6 v_19 0 hf cl sl (by omega) _ _ _ hw (lv_sub hl [0, 1, 2, 3, 4, 5] rfl)
    · have hf := iff_ hc hf
      refine lv_iconst (v := 0) C.1 C.2.1 dL_law_432 (by decide) ?_
      refine lv_istore (lv' := [(12, .int 0), (0, .ref (b)), (1, .ref (qx 0)), (2, .ref (r 0)), (3, .int x3), (5, .int x5), (6, .int x6), (9, .int x9), (10, .int x10), (11, .int x11)]) C.1 C.2.1 dL_law_433 hl (by decide) rfl (fun ls hl => ?_)
      refine lv_iconst (v := 0) C.1 C.2.1 dL_law_435 (by decide) ?_
      refine lv_istore (lv' := [(13, .int 0), (12, .int 0), (0, .ref (b)), (1, .ref (qx 0)), (2, .ref (r 0)), (3, .int x3), (5, .int x5), (6, .int x6), (9, .int x9), (10, .int x10), (11, .int x11)]) C.1 C.2.1 dL_law_436 hl (by decide) rfl (fun ls hl => ?_)
      refine lv_iconst (v := 0) C.1 C.2.1 dL_law_438 (by decide) ?_
      refine lv_istore (lv' := [(14, .int 0), (13, .int 0), (12, .int 0), (0, .ref (b)), (1, .ref (qx 0)), (2, .ref (r 0)), (3, .int x3), (5, .int x5), (6, .int x6), (9, .int x9), (10, .int x10), (11, .int x11)]) C.1 C.2.1 dL_law_439 hl (by decide) rfl (fun ls hl => ?_)
      exact wL_law_441 C E hX hbl hL x3 x5 x6 x9 x10 x11 M SM hM k22 hk22 (fL_law_425 L xs x3 x5 x6 k22 n) ih 100 S T 0 0 0 hf cl sl (by omega) _ _ _ hw (lv_sub hl [3, 4, 5, 6, 7, 8, 9, 10, 11, 2, 1, 0] rfl)
def fL_law_381 (L : Nat) (xs : Nat → Int32) (x3 : Int32) (x4 : Int32) (x5 : Int32) (x6 : Int32) (k22 : St → St → Int32 → Option Unit) (k111 : St → St → Int32 → Int32 → Int32 → Option Unit) (S : St) (T : St) (x7 : Int32) (x8 : Int32) (x9 : Int32) (x10 : Int32) (x11 : Int32) : Option Unit :=
  Option.bind (fX3_isBelow S x9 x10) fun v_51 =>
  if v_51 = 0 then
    Option.bind (some (x9 + 1)) fun x9_52 =>
    k111 S T x7 x8 x9_52
  else
    if x11 = x10 then
      Option.bind (some (x9 + 1)) fun x9_53 =>
      k111 S T x7 x8 x9_53
    else
      none
set_option maxHeartbeats 4000000 in
set_option maxRecDepth 100000 in
theorem wL_law_381 {p : Program} {l : Launch} {e : Env} {s : State} {m : MethodId} {below : List Frame} {meth : Method} {c : Code} {b L : Nat} {xs : Nat → Int32} {D : va_G} {k : Nat → ClassId} {qx r : Nat → Nat} (C : Ctx p s m #[Value.ref b] meth c cL_law 17 RL ret) (E : gEL D k s) (hX : va_X b L xs s s.heap) (hbl : b < s.heap.size) (hL : L ≤ 260) {r1 : Unit} (x3 : Int32) (x4 : Int32) (x5 : Int32) (x6 : Int32) (M SM : Nat) (hM : M ≤ 30200 ∧ SM ≤ 724800) (k22 : St → St → Int32 → Option Unit) (hk22 : ∀ (S : St) (T : St) (x3 : Int32), k22 S T x3 = some r1 → ∀ (cl sl : Nat), cl ≤ M ∧ sl ≤ SM → ∀ (H : Heap) (locs : List Loc) (ls : Array Slot), gS D [] k qx r S T [] s H locs → lv_has ls 17 [(0, .ref (b)), (1, .ref (qx 0)), (2, .ref (r 0)), (3, .int x3)] → W p l e room_1 s m #[Value.ref b] below meth c H locs cl sl (lw_Z below #[Value.ref b] s) (F0 m 22 ls [])) (k111 : St → St → Int32 → Int32 → Int32 → Option Unit) (hk111 : ∀ (S : St) (T : St) (x7 : Int32) (x8 : Int32) (x9 : Int32), k111 S T x7 x8 x9 = some r1 → ∀ (cl sl : Nat), cl ≤ M ∧ sl ≤ SM → ∀ (H : Heap) (locs : List Loc) (ls : Array Slot), gS D [] k qx r S T [] s H locs → lv_has ls 17 [(0, .ref (b)), (1, .ref (qx 0)), (2, .ref (r 0)), (3, .int x3), (4, .int x4), (5, .int x5), (6, .int x6), (7, .int x7), (8, .int x8), (9, .int x9)] → W p l e room_1 s m #[Value.ref b] below meth c H locs cl sl (lw_Z below #[Value.ref b] s) (F0 m 111 ls [])) : ∀ (S : St) (T : St) (x7 : Int32) (x8 : Int32) (x9 : Int32) (x10 : Int32) (x11 : Int32), fL_law_381 L xs x3 x4 x5 x6 k22 k111 S T x7 x8 x9 x10 x11 = some r1 → ∀ (cl sl : Nat), cl ≤ M ∧ sl ≤ SM → ∀ (H : Heap) (locs : List Loc) (ls : Array Slot), gS D [] k qx r S T [] s H locs → lv_has ls 17 [(0, .ref (b)), (1, .ref (qx 0)), (2, .ref (r 0)), (3, .int x3), (4, .int x4), (5, .int x5), (6, .int x6), (7, .int x7), (8, .int x8), (9, .int x9), (10, .int x10), (11, .int x11)] → W p l e room_1 s m #[Value.ref b] below meth c H locs cl sl (lw_Z below #[Value.ref b] s) (F0 m 381 ls []) := by
  intro S T x7 x8 x9 x10 x11 hf cl sl hcl H locs ls hw hl
  unfold fL_law_381 at hf
  refine lv_aload_n C.1 C.2.1 dL_law_381 rfl (lv_at hl 1 rfl) ?_
  refine lv_iload C.1 C.2.1 dL_law_382 (lv_at hl 9 rfl) ?_
  refine lv_iload C.1 C.2.1 dL_law_384 (lv_at hl 10 rfl) ?_
  obtain ⟨v_51, hv_51, hf⟩ := bnd hf
  refine l_xi (rm := ({ frames := 2, cells := 0, slots := 0, locals := 43 } : Room)) (As := [.int x9, .int x10]) (rest := []) C E hw F_X3_isBelow rfl (fun _ => ctX3_isBelow l (cI := k 0) (D := D) (q := qx) S x9 x10 _ hv_51) km_L_128 rfl hl.1 rfl (Nat.le_of_ble_eq_true rfl) ⟨(Nat.le_of_ble_eq_true rfl), (Nat.le_of_ble_eq_true rfl)⟩ ⟨(by omega : cl + 0 ≤ 600130), (by omega : sl + 0 ≤ 7301080)⟩ dL_law_386 (fun H locs hw => ?_)
  refine W.cs (cells' := cl) (slots' := sl) rfl rfl ?_
  refine lv_if_eq (tgt := 401) C.1 C.2.1 dL_law_389 (by decide) (fun hc => ?_) (fun hc => ?_)
  · have hf := ift hc hf
    obtain ⟨x9_52, hx9_52, hf⟩ := bnd hf
    refine lv_iinc (v := x9_52) (lv' := [(9, .int x9_52), (0, .ref (b)), (1, .ref (qx 0)), (2, .ref (r 0)), (3, .int x3), (4, .int x4), (5, .int x5), (6, .int x6), (7, .int x7), (8, .int x8), (10, .int x10), (11, .int x11)]) C.1 C.2.1 dL_law_401 hl (k := 9) rfl (inc1 hx9_52) (by decide) rfl (fun ls hl => ?_)
    refine lv_goto (tgt := 111) C.1 C.2.1 dL_law_404 (by decide) ?_
    exact hk111 S T x7 x8 x9_52 hf cl sl (by omega) _ _ _ hw (lv_sub hl [1, 2, 3, 4, 5, 6, 7, 8, 9, 0] rfl)
  · have hf := iff_ hc hf
    refine lv_iload C.1 C.2.1 dL_law_392 (lv_at hl 11 rfl) ?_
    refine lv_iload C.1 C.2.1 dL_law_394 (lv_at hl 10 rfl) ?_
    refine lv_icmp_eq (tgt := 401) C.1 C.2.1 dL_law_396 (by decide) (fun hc => ?_) (fun hc => ?_)
    · have hf := ift hc hf
      obtain ⟨x9_53, hx9_53, hf⟩ := bnd hf
      refine lv_iinc (v := x9_53) (lv' := [(9, .int x9_53), (0, .ref (b)), (1, .ref (qx 0)), (2, .ref (r 0)), (3, .int x3), (4, .int x4), (5, .int x5), (6, .int x6), (7, .int x7), (8, .int x8), (10, .int x10), (11, .int x11)]) C.1 C.2.1 dL_law_401 hl (k := 9) rfl (inc1 hx9_53) (by decide) rfl (fun ls hl => ?_)
      refine lv_goto (tgt := 111) C.1 C.2.1 dL_law_404 (by decide) ?_
      exact hk111 S T x7 x8 x9_53 hf cl sl (by omega) _ _ _ hw (lv_sub hl [1, 2, 3, 4, 5, 6, 7, 8, 9, 0] rfl)
    · have hf := iff_ hc hf
      refine lv_iconst (v := 0) C.1 C.2.1 dL_law_399 (by decide) ?_
      cases hf
def fL_law_363 (L : Nat) (xs : Nat → Int32) (x3 : Int32) (x4 : Int32) (x5 : Int32) (x6 : Int32) (k22 : St → St → Int32 → Option Unit) (k111 : St → St → Int32 → Int32 → Int32 → Option Unit) (S : St) (T : St) (x7 : Int32) (x8 : Int32) (x9 : Int32) (x10 : Int32) (x11 : Int32) : Option Unit :=
  if x11 = x10 then
    fL_law_381 L xs x3 x4 x5 x6 k22 k111 S T x7 x8 x9 x10 x11
  else
    Option.bind (fX3_isBelow S x10 x11) fun v_54 =>
    if v_54 = 0 then
      none
    else
      fL_law_381 L xs x3 x4 x5 x6 k22 k111 S T x7 x8 x9 x10 x11
set_option maxHeartbeats 4000000 in
set_option maxRecDepth 100000 in
theorem wL_law_363 {p : Program} {l : Launch} {e : Env} {s : State} {m : MethodId} {below : List Frame} {meth : Method} {c : Code} {b L : Nat} {xs : Nat → Int32} {D : va_G} {k : Nat → ClassId} {qx r : Nat → Nat} (C : Ctx p s m #[Value.ref b] meth c cL_law 17 RL ret) (E : gEL D k s) (hX : va_X b L xs s s.heap) (hbl : b < s.heap.size) (hL : L ≤ 260) {r1 : Unit} (x3 : Int32) (x4 : Int32) (x5 : Int32) (x6 : Int32) (M SM : Nat) (hM : M ≤ 30200 ∧ SM ≤ 724800) (k22 : St → St → Int32 → Option Unit) (hk22 : ∀ (S : St) (T : St) (x3 : Int32), k22 S T x3 = some r1 → ∀ (cl sl : Nat), cl ≤ M ∧ sl ≤ SM → ∀ (H : Heap) (locs : List Loc) (ls : Array Slot), gS D [] k qx r S T [] s H locs → lv_has ls 17 [(0, .ref (b)), (1, .ref (qx 0)), (2, .ref (r 0)), (3, .int x3)] → W p l e room_1 s m #[Value.ref b] below meth c H locs cl sl (lw_Z below #[Value.ref b] s) (F0 m 22 ls [])) (k111 : St → St → Int32 → Int32 → Int32 → Option Unit) (hk111 : ∀ (S : St) (T : St) (x7 : Int32) (x8 : Int32) (x9 : Int32), k111 S T x7 x8 x9 = some r1 → ∀ (cl sl : Nat), cl ≤ M ∧ sl ≤ SM → ∀ (H : Heap) (locs : List Loc) (ls : Array Slot), gS D [] k qx r S T [] s H locs → lv_has ls 17 [(0, .ref (b)), (1, .ref (qx 0)), (2, .ref (r 0)), (3, .int x3), (4, .int x4), (5, .int x5), (6, .int x6), (7, .int x7), (8, .int x8), (9, .int x9)] → W p l e room_1 s m #[Value.ref b] below meth c H locs cl sl (lw_Z below #[Value.ref b] s) (F0 m 111 ls [])) : ∀ (S : St) (T : St) (x7 : Int32) (x8 : Int32) (x9 : Int32) (x10 : Int32) (x11 : Int32), fL_law_363 L xs x3 x4 x5 x6 k22 k111 S T x7 x8 x9 x10 x11 = some r1 → ∀ (cl sl : Nat), cl ≤ M ∧ sl ≤ SM → ∀ (H : Heap) (locs : List Loc) (ls : Array Slot), gS D [] k qx r S T [] s H locs → lv_has ls 17 [(0, .ref (b)), (1, .ref (qx 0)), (2, .ref (r 0)), (3, .int x3), (4, .int x4), (5, .int x5), (6, .int x6), (7, .int x7), (8, .int x8), (9, .int x9), (10, .int x10), (11, .int x11)] → W p l e room_1 s m #[Value.ref b] below meth c H locs cl sl (lw_Z below #[Value.ref b] s) (F0 m 363 ls []) := by
  intro S T x7 x8 x9 x10 x11 hf cl sl hcl H locs ls hw hl
  unfold fL_law_363 at hf
  refine lv_iload C.1 C.2.1 dL_law_363 (lv_at hl 11 rfl) ?_
  refine lv_iload C.1 C.2.1 dL_law_365 (lv_at hl 10 rfl) ?_
  refine lv_icmp_eq (tgt := 381) C.1 C.2.1 dL_law_367 (by decide) (fun hc => ?_) (fun hc => ?_)
  · have hf := ift hc hf
    exact wL_law_381 C E hX hbl hL x3 x4 x5 x6 M SM hM k22 hk22 k111 hk111 S T x7 x8 x9 x10 x11 hf cl sl (by omega) _ _ _ hw (lv_sub hl [0, 1, 2, 3, 4, 5, 6, 7, 8, 9, 10, 11] rfl)
  · have hf := iff_ hc hf
    refine lv_aload_n C.1 C.2.1 dL_law_370 rfl (lv_at hl 1 rfl) ?_
    refine lv_iload C.1 C.2.1 dL_law_371 (lv_at hl 10 rfl) ?_
    refine lv_iload C.1 C.2.1 dL_law_373 (lv_at hl 11 rfl) ?_
    obtain ⟨v_54, hv_54, hf⟩ := bnd hf
    refine l_xi (rm := ({ frames := 2, cells := 0, slots := 0, locals := 43 } : Room)) (As := [.int x10, .int x11]) (rest := []) C E hw F_X3_isBelow rfl (fun _ => ctX3_isBelow l (cI := k 0) (D := D) (q := qx) S x10 x11 _ hv_54) km_L_128 rfl hl.1 rfl (Nat.le_of_ble_eq_true rfl) ⟨(Nat.le_of_ble_eq_true rfl), (Nat.le_of_ble_eq_true rfl)⟩ ⟨(by omega : cl + 0 ≤ 600130), (by omega : sl + 0 ≤ 7301080)⟩ dL_law_375 (fun H locs hw => ?_)
    refine W.cs (cells' := cl) (slots' := sl) rfl rfl ?_
    refine lv_if_eq (tgt := 399) C.1 C.2.1 dL_law_378 (by decide) (fun hc => ?_) (fun hc => ?_)
    · have hf := ift hc hf
      refine lv_iconst (v := 0) C.1 C.2.1 dL_law_399 (by decide) ?_
      cases hf
    · have hf := iff_ hc hf
      exact wL_law_381 C E hX hbl hL x3 x4 x5 x6 M SM hM k22 hk22 k111 hk111 S T x7 x8 x9 x10 x11 hf cl sl (by omega) _ _ _ hw (lv_sub hl [0, 1, 2, 3, 4, 5, 6, 7, 8, 9, 10, 11] rfl)
def fL_law_301 (L : Nat) (xs : Nat → Int32) (x3 : Int32) (x4 : Int32) (x5 : Int32) (x6 : Int32) (k22 : St → St → Int32 → Option Unit) (k111 : St → St → Int32 → Int32 → Int32 → Option Unit) (S : St) (T : St) (x7 : Int32) (x8 : Int32) (x9 : Int32) : Option Unit :=
  Option.bind (rmd x9 5) fun v_39 =>
  Option.bind (fL_below (x4 >>> ((2 + v_39) &&& 31)) x5) fun v_40 =>
  Option.bind (fX3_nearestAbove S x9 v_40) fun v_41 =>
  Option.bind (fX3_nearestAbove S v_40 x9) fun v_42 =>
  if v_41 = v_42 then
    if v_41 < 0 then
      fL_law_381 L xs x3 x4 x5 x6 k22 k111 S T x7 x8 x9 v_40 v_41
    else
      if v_41 = x9 then
        fL_law_363 L xs x3 x4 x5 x6 k22 k111 S T x7 x8 x9 v_40 v_41
      else
        Option.bind (fX3_isBelow S x9 v_41) fun v_43 =>
        if v_43 = 0 then
          none
        else
          fL_law_363 L xs x3 x4 x5 x6 k22 k111 S T x7 x8 x9 v_40 v_41
  else
    none
set_option maxHeartbeats 4000000 in
set_option maxRecDepth 100000 in
theorem wL_law_301 {p : Program} {l : Launch} {e : Env} {s : State} {m : MethodId} {below : List Frame} {meth : Method} {c : Code} {b L : Nat} {xs : Nat → Int32} {D : va_G} {k : Nat → ClassId} {qx r : Nat → Nat} (C : Ctx p s m #[Value.ref b] meth c cL_law 17 RL ret) (E : gEL D k s) (hX : va_X b L xs s s.heap) (hbl : b < s.heap.size) (hL : L ≤ 260) {r1 : Unit} (x3 : Int32) (x4 : Int32) (x5 : Int32) (x6 : Int32) (M SM : Nat) (hM : M ≤ 30200 ∧ SM ≤ 724800) (k22 : St → St → Int32 → Option Unit) (hk22 : ∀ (S : St) (T : St) (x3 : Int32), k22 S T x3 = some r1 → ∀ (cl sl : Nat), cl ≤ M ∧ sl ≤ SM → ∀ (H : Heap) (locs : List Loc) (ls : Array Slot), gS D [] k qx r S T [] s H locs → lv_has ls 17 [(0, .ref (b)), (1, .ref (qx 0)), (2, .ref (r 0)), (3, .int x3)] → W p l e room_1 s m #[Value.ref b] below meth c H locs cl sl (lw_Z below #[Value.ref b] s) (F0 m 22 ls [])) (k111 : St → St → Int32 → Int32 → Int32 → Option Unit) (hk111 : ∀ (S : St) (T : St) (x7 : Int32) (x8 : Int32) (x9 : Int32), k111 S T x7 x8 x9 = some r1 → ∀ (cl sl : Nat), cl ≤ M ∧ sl ≤ SM → ∀ (H : Heap) (locs : List Loc) (ls : Array Slot), gS D [] k qx r S T [] s H locs → lv_has ls 17 [(0, .ref (b)), (1, .ref (qx 0)), (2, .ref (r 0)), (3, .int x3), (4, .int x4), (5, .int x5), (6, .int x6), (7, .int x7), (8, .int x8), (9, .int x9)] → W p l e room_1 s m #[Value.ref b] below meth c H locs cl sl (lw_Z below #[Value.ref b] s) (F0 m 111 ls [])) : ∀ (S : St) (T : St) (x7 : Int32) (x8 : Int32) (x9 : Int32), fL_law_301 L xs x3 x4 x5 x6 k22 k111 S T x7 x8 x9 = some r1 → ∀ (cl sl : Nat), cl ≤ M ∧ sl ≤ SM → ∀ (H : Heap) (locs : List Loc) (ls : Array Slot), gS D [] k qx r S T [] s H locs → lv_has ls 17 [(0, .ref (b)), (1, .ref (qx 0)), (2, .ref (r 0)), (3, .int x3), (4, .int x4), (5, .int x5), (6, .int x6), (7, .int x7), (8, .int x8), (9, .int x9)] → W p l e room_1 s m #[Value.ref b] below meth c H locs cl sl (lw_Z below #[Value.ref b] s) (F0 m 301 ls []) := by
  intro S T x7 x8 x9 hf cl sl hcl H locs ls hw hl
  unfold fL_law_301 at hf
  refine lv_iload C.1 C.2.1 dL_law_301 (lv_at hl 4 rfl) ?_
  refine lv_iconst (v := 2) C.1 C.2.1 dL_law_303 (by decide) ?_
  refine lv_iload C.1 C.2.1 dL_law_304 (lv_at hl 9 rfl) ?_
  refine lv_iconst (v := 5) C.1 C.2.1 dL_law_306 (by decide) ?_
  obtain ⟨v_39, hv_39, hf⟩ := bnd hf
  refine l_irem C hv_39 dL_law_307 ?_
  refine lv_iadd C.1 C.2.1 dL_law_308 ?_
  refine lv_ishr C.1 C.2.1 dL_law_309 ?_
  refine lv_iload C.1 C.2.1 dL_law_310 (lv_at hl 5 rfl) ?_
  obtain ⟨v_40, hv_40, hf⟩ := bnd hf
  refine l_0i (rm := ({ frames := 0, cells := 0, slots := 0, locals := 0 } : Room)) (As := [.int (x4 >>> ((2 + v_39) &&& 31)), .int x5]) (rest := []) C hw F_L_below (ctL_below l (x4 >>> ((2 + v_39) &&& 31)) x5 hv_40) km_L_9 rfl hl.1 rfl (Nat.le_of_ble_eq_true rfl) ⟨(Nat.le_of_ble_eq_true rfl), (Nat.le_of_ble_eq_true rfl)⟩ ⟨(by omega : cl + 0 ≤ 600130), (by omega : sl + 0 ≤ 7301080)⟩ dL_law_312 (fun H locs hw => ?_)
  refine W.cs (cells' := cl) (slots' := sl) rfl rfl ?_
  refine lv_istore (lv' := [(10, .int v_40), (0, .ref (b)), (1, .ref (qx 0)), (2, .ref (r 0)), (3, .int x3), (4, .int x4), (5, .int x5), (6, .int x6), (7, .int x7), (8, .int x8), (9, .int x9)]) C.1 C.2.1 dL_law_315 hl (by decide) rfl (fun ls hl => ?_)
  refine lv_aload_n C.1 C.2.1 dL_law_317 rfl (lv_at hl 2 rfl) ?_
  refine lv_iload C.1 C.2.1 dL_law_318 (lv_at hl 10 rfl) ?_
  refine lv_iload C.1 C.2.1 dL_law_320 (lv_at hl 0 rfl) ?_
  obtain ⟨v_41, hv_41, hf⟩ := bnd hf
  refine l_xi (rm := ({ frames := 3, cells := 0, slots := 0, locals := 65 } : Room)) (As := [.int x9, .int v_40]) (rest := []) C E hw F_X3_nearestAbove rfl (fun _ => ctX3_nearestAbove l (cI := k 0) (D := D) (q := qx) S x9 v_40 _ hv_41) km_L_139 rfl hl.1 rfl (Nat.le_of_ble_eq_true rfl) ⟨(Nat.le_of_ble_eq_true rfl), (Nat.le_of_ble_eq_true rfl)⟩ ⟨(by omega : cl + 0 ≤ 600130), (by omega : sl + 0 ≤ 7301080)⟩ dL_law_322 (fun H locs hw => ?_)
  refine W.cs (cells' := cl) (slots' := sl) rfl rfl ?_
  refine lv_istore (lv' := [(11, .int v_41), (10, .int v_40), (0, .ref (b)), (1, .ref (qx 0)), (2, .ref (r 0)), (3, .int x3), (4, .int x4), (5, .int x5), (6, .int x6), (7, .int x7), (8, .int x8), (9, .int x9)]) C.1 C.2.1 dL_law_325 hl (by decide) rfl (fun ls hl => ?_)
  refine lv_iload C.1 C.2.1 dL_law_327 (lv_at hl 0 rfl) ?_
  refine lv_aload_n C.1 C.2.1 dL_law_329 rfl (lv_at hl 3 rfl) ?_
  refine lv_iload C.1 C.2.1 dL_law_330 (lv_at hl 1 rfl) ?_
  refine lv_iload C.1 C.2.1 dL_law_332 (lv_at hl 11 rfl) ?_
  obtain ⟨v_42, hv_42, hf⟩ := bnd hf
  refine l_xi (rm := ({ frames := 3, cells := 0, slots := 0, locals := 65 } : Room)) (As := [.int v_40, .int x9]) (rest := [.int v_41]) C E hw F_X3_nearestAbove rfl (fun _ => ctX3_nearestAbove l (cI := k 0) (D := D) (q := qx) S v_40 x9 _ hv_42) km_L_139 rfl hl.1 rfl (Nat.le_of_ble_eq_true rfl) ⟨(Nat.le_of_ble_eq_true rfl), (Nat.le_of_ble_eq_true rfl)⟩ ⟨(by omega : cl + 0 ≤ 600130), (by omega : sl + 0 ≤ 7301080)⟩ dL_law_334 (fun H locs hw => ?_)
  refine W.cs (cells' := cl) (slots' := sl) rfl rfl ?_
  refine lv_icmp_ne (tgt := 399) C.1 C.2.1 dL_law_337 (by decide) (fun hc => ?_) (fun hc => ?_)
  · have hf := iff_ hc hf
    refine lv_iconst (v := 0) C.1 C.2.1 dL_law_399 (by decide) ?_
    cases hf
  · have hf := ift hc hf
    refine lv_iload C.1 C.2.1 dL_law_340 (lv_at hl 0 rfl) ?_
    refine lv_if_lt (tgt := 381) C.1 C.2.1 dL_law_342 (by decide) (fun hc => ?_) (fun hc => ?_)
    · have hf := ift hc hf
      exact wL_law_381 C E hX hbl hL x3 x4 x5 x6 M SM hM k22 hk22 k111 hk111 S T x7 x8 x9 v_40 v_41 hf cl sl (by omega) _ _ _ hw (lv_sub hl [2, 3, 4, 5, 6, 7, 8, 9, 10, 11, 1, 0] rfl)
    · have hf := iff_ hc hf
      refine lv_iload C.1 C.2.1 dL_law_345 (lv_at hl 0 rfl) ?_
      refine lv_iload C.1 C.2.1 dL_law_347 (lv_at hl 11 rfl) ?_
      refine lv_icmp_eq (tgt := 363) C.1 C.2.1 dL_law_349 (by decide) (fun hc => ?_) (fun hc => ?_)
      · have hf := ift hc hf
        exact wL_law_363 C E hX hbl hL x3 x4 x5 x6 M SM hM k22 hk22 k111 hk111 S T x7 x8 x9 v_40 v_41 hf cl sl (by omega) _ _ _ hw (lv_sub hl [2, 3, 4, 5, 6, 7, 8, 9, 10, 11, 1, 0] rfl)
      · have hf := iff_ hc hf
        refine lv_aload_n C.1 C.2.1 dL_law_352 rfl (lv_at hl 3 rfl) ?_
        refine lv_iload C.1 C.2.1 dL_law_353 (lv_at hl 11 rfl) ?_
        refine lv_iload C.1 C.2.1 dL_law_355 (lv_at hl 0 rfl) ?_
        obtain ⟨v_43, hv_43, hf⟩ := bnd hf
        refine l_xi (rm := ({ frames := 2, cells := 0, slots := 0, locals := 43 } : Room)) (As := [.int x9, .int v_41]) (rest := []) C E hw F_X3_isBelow rfl (fun _ => ctX3_isBelow l (cI := k 0) (D := D) (q := qx) S x9 v_41 _ hv_43) km_L_128 rfl hl.1 rfl (Nat.le_of_ble_eq_true rfl) ⟨(Nat.le_of_ble_eq_true rfl), (Nat.le_of_ble_eq_true rfl)⟩ ⟨(by omega : cl + 0 ≤ 600130), (by omega : sl + 0 ≤ 7301080)⟩ dL_law_357 (fun H locs hw => ?_)
        refine W.cs (cells' := cl) (slots' := sl) rfl rfl ?_
        refine lv_if_eq (tgt := 399) C.1 C.2.1 dL_law_360 (by decide) (fun hc => ?_) (fun hc => ?_)
        · have hf := ift hc hf
          refine lv_iconst (v := 0) C.1 C.2.1 dL_law_399 (by decide) ?_
          cases hf
        · have hf := iff_ hc hf
          exact wL_law_363 C E hX hbl hL x3 x4 x5 x6 M SM hM k22 hk22 k111 hk111 S T x7 x8 x9 v_40 v_41 hf cl sl (by omega) _ _ _ hw (lv_sub hl [2, 3, 4, 5, 6, 7, 8, 9, 10, 11, 1, 0] rfl)
def fL_law_290 (L : Nat) (xs : Nat → Int32) (x3 : Int32) (x4 : Int32) (x5 : Int32) (x6 : Int32) (x7 : Int32) (x8 : Int32) (x9 : Int32) (x10 : Int32) (k22 : St → St → Int32 → Option Unit) (k111 : St → St → Int32 → Int32 → Int32 → Option Unit) (k252 : St → St → Int32 → Option Unit) (S : St) (T : St) (x11 : Int32) (t0 : Int32) (t1 : Int32) : Option Unit :=
  if t0 = t1 then
    Option.bind (some (x11 + 1)) fun x11_55 =>
    k252 S T x11_55
  else
    none
set_option maxHeartbeats 4000000 in
set_option maxRecDepth 100000 in
theorem wL_law_290 {p : Program} {l : Launch} {e : Env} {s : State} {m : MethodId} {below : List Frame} {meth : Method} {c : Code} {b L : Nat} {xs : Nat → Int32} {D : va_G} {k : Nat → ClassId} {qx r : Nat → Nat} (C : Ctx p s m #[Value.ref b] meth c cL_law 17 RL ret) (E : gEL D k s) (hX : va_X b L xs s s.heap) (hbl : b < s.heap.size) (hL : L ≤ 260) {r1 : Unit} (x3 : Int32) (x4 : Int32) (x5 : Int32) (x6 : Int32) (x7 : Int32) (x8 : Int32) (x9 : Int32) (x10 : Int32) (M SM : Nat) (hM : M ≤ 30200 ∧ SM ≤ 724800) (k22 : St → St → Int32 → Option Unit) (hk22 : ∀ (S : St) (T : St) (x3 : Int32), k22 S T x3 = some r1 → ∀ (cl sl : Nat), cl ≤ M ∧ sl ≤ SM → ∀ (H : Heap) (locs : List Loc) (ls : Array Slot), gS D [] k qx r S T [] s H locs → lv_has ls 17 [(0, .ref (b)), (1, .ref (qx 0)), (2, .ref (r 0)), (3, .int x3)] → W p l e room_1 s m #[Value.ref b] below meth c H locs cl sl (lw_Z below #[Value.ref b] s) (F0 m 22 ls [])) (k111 : St → St → Int32 → Int32 → Int32 → Option Unit) (hk111 : ∀ (S : St) (T : St) (x7 : Int32) (x8 : Int32) (x9 : Int32), k111 S T x7 x8 x9 = some r1 → ∀ (cl sl : Nat), cl ≤ M ∧ sl ≤ SM → ∀ (H : Heap) (locs : List Loc) (ls : Array Slot), gS D [] k qx r S T [] s H locs → lv_has ls 17 [(0, .ref (b)), (1, .ref (qx 0)), (2, .ref (r 0)), (3, .int x3), (4, .int x4), (5, .int x5), (6, .int x6), (7, .int x7), (8, .int x8), (9, .int x9)] → W p l e room_1 s m #[Value.ref b] below meth c H locs cl sl (lw_Z below #[Value.ref b] s) (F0 m 111 ls [])) (k252 : St → St → Int32 → Option Unit) (hk252 : ∀ (S : St) (T : St) (x11 : Int32), k252 S T x11 = some r1 → ∀ (cl sl : Nat), cl ≤ M ∧ sl ≤ SM → ∀ (H : Heap) (locs : List Loc) (ls : Array Slot), gS D [] k qx r S T [] s H locs → lv_has ls 17 [(0, .ref (b)), (1, .ref (qx 0)), (2, .ref (r 0)), (3, .int x3), (4, .int x4), (5, .int x5), (6, .int x6), (7, .int x7), (8, .int x8), (9, .int x9), (10, .int x10), (11, .int x11)] → W p l e room_1 s m #[Value.ref b] below meth c H locs cl sl (lw_Z below #[Value.ref b] s) (F0 m 252 ls [])) : ∀ (S : St) (T : St) (x11 : Int32) (t0 : Int32) (t1 : Int32), fL_law_290 L xs x3 x4 x5 x6 x7 x8 x9 x10 k22 k111 k252 S T x11 t0 t1 = some r1 → ∀ (cl sl : Nat), cl ≤ M ∧ sl ≤ SM → ∀ (H : Heap) (locs : List Loc) (ls : Array Slot), gS D [] k qx r S T [] s H locs → lv_has ls 17 [(0, .ref (b)), (1, .ref (qx 0)), (2, .ref (r 0)), (3, .int x3), (4, .int x4), (5, .int x5), (6, .int x6), (7, .int x7), (8, .int x8), (9, .int x9), (10, .int x10), (11, .int x11)] → W p l e room_1 s m #[Value.ref b] below meth c H locs cl sl (lw_Z below #[Value.ref b] s) (F0 m 290 ls [.int t1, .int t0]) := by
  intro S T x11 t0 t1 hf cl sl hcl H locs ls hw hl
  unfold fL_law_290 at hf
  refine lv_icmp_eq (tgt := 295) C.1 C.2.1 dL_law_290 (by decide) (fun hc => ?_) (fun hc => ?_)
  · have hf := ift hc hf
    obtain ⟨x11_55, hx11_55, hf⟩ := bnd hf
    refine lv_iinc (v := x11_55) (lv' := [(11, .int x11_55), (0, .ref (b)), (1, .ref (qx 0)), (2, .ref (r 0)), (3, .int x3), (4, .int x4), (5, .int x5), (6, .int x6), (7, .int x7), (8, .int x8), (9, .int x9), (10, .int x10)]) C.1 C.2.1 dL_law_295 hl (k := 11) rfl (inc1 hx11_55) (by decide) rfl (fun ls hl => ?_)
    refine lv_goto (tgt := 252) C.1 C.2.1 dL_law_298 (by decide) ?_
    exact hk252 S T x11_55 hf cl sl (by omega) _ _ _ hw (lv_sub hl [1, 2, 3, 4, 5, 6, 7, 8, 9, 10, 11, 0] rfl)
  · have hf := iff_ hc hf
    refine lv_iconst (v := 0) C.1 C.2.1 dL_law_293 (by decide) ?_
    cases hf
def fL_law_285 (L : Nat) (xs : Nat → Int32) (x3 : Int32) (x4 : Int32) (x5 : Int32) (x6 : Int32) (x7 : Int32) (x8 : Int32) (x9 : Int32) (x10 : Int32) (k22 : St → St → Int32 → Option Unit) (k111 : St → St → Int32 → Int32 → Int32 → Option Unit) (k252 : St → St → Int32 → Option Unit) (S : St) (T : St) (x11 : Int32) (t0 : Int32) : Option Unit :=
  fL_law_290 L xs x3 x4 x5 x6 x7 x8 x9 x10 k22 k111 k252 S T x11 t0 1
set_option maxHeartbeats 4000000 in
set_option maxRecDepth 100000 in
theorem wL_law_285 {p : Program} {l : Launch} {e : Env} {s : State} {m : MethodId} {below : List Frame} {meth : Method} {c : Code} {b L : Nat} {xs : Nat → Int32} {D : va_G} {k : Nat → ClassId} {qx r : Nat → Nat} (C : Ctx p s m #[Value.ref b] meth c cL_law 17 RL ret) (E : gEL D k s) (hX : va_X b L xs s s.heap) (hbl : b < s.heap.size) (hL : L ≤ 260) {r1 : Unit} (x3 : Int32) (x4 : Int32) (x5 : Int32) (x6 : Int32) (x7 : Int32) (x8 : Int32) (x9 : Int32) (x10 : Int32) (M SM : Nat) (hM : M ≤ 30200 ∧ SM ≤ 724800) (k22 : St → St → Int32 → Option Unit) (hk22 : ∀ (S : St) (T : St) (x3 : Int32), k22 S T x3 = some r1 → ∀ (cl sl : Nat), cl ≤ M ∧ sl ≤ SM → ∀ (H : Heap) (locs : List Loc) (ls : Array Slot), gS D [] k qx r S T [] s H locs → lv_has ls 17 [(0, .ref (b)), (1, .ref (qx 0)), (2, .ref (r 0)), (3, .int x3)] → W p l e room_1 s m #[Value.ref b] below meth c H locs cl sl (lw_Z below #[Value.ref b] s) (F0 m 22 ls [])) (k111 : St → St → Int32 → Int32 → Int32 → Option Unit) (hk111 : ∀ (S : St) (T : St) (x7 : Int32) (x8 : Int32) (x9 : Int32), k111 S T x7 x8 x9 = some r1 → ∀ (cl sl : Nat), cl ≤ M ∧ sl ≤ SM → ∀ (H : Heap) (locs : List Loc) (ls : Array Slot), gS D [] k qx r S T [] s H locs → lv_has ls 17 [(0, .ref (b)), (1, .ref (qx 0)), (2, .ref (r 0)), (3, .int x3), (4, .int x4), (5, .int x5), (6, .int x6), (7, .int x7), (8, .int x8), (9, .int x9)] → W p l e room_1 s m #[Value.ref b] below meth c H locs cl sl (lw_Z below #[Value.ref b] s) (F0 m 111 ls [])) (k252 : St → St → Int32 → Option Unit) (hk252 : ∀ (S : St) (T : St) (x11 : Int32), k252 S T x11 = some r1 → ∀ (cl sl : Nat), cl ≤ M ∧ sl ≤ SM → ∀ (H : Heap) (locs : List Loc) (ls : Array Slot), gS D [] k qx r S T [] s H locs → lv_has ls 17 [(0, .ref (b)), (1, .ref (qx 0)), (2, .ref (r 0)), (3, .int x3), (4, .int x4), (5, .int x5), (6, .int x6), (7, .int x7), (8, .int x8), (9, .int x9), (10, .int x10), (11, .int x11)] → W p l e room_1 s m #[Value.ref b] below meth c H locs cl sl (lw_Z below #[Value.ref b] s) (F0 m 252 ls [])) : ∀ (S : St) (T : St) (x11 : Int32) (t0 : Int32), fL_law_285 L xs x3 x4 x5 x6 x7 x8 x9 x10 k22 k111 k252 S T x11 t0 = some r1 → ∀ (cl sl : Nat), cl ≤ M ∧ sl ≤ SM → ∀ (H : Heap) (locs : List Loc) (ls : Array Slot), gS D [] k qx r S T [] s H locs → lv_has ls 17 [(0, .ref (b)), (1, .ref (qx 0)), (2, .ref (r 0)), (3, .int x3), (4, .int x4), (5, .int x5), (6, .int x6), (7, .int x7), (8, .int x8), (9, .int x9), (10, .int x10), (11, .int x11)] → W p l e room_1 s m #[Value.ref b] below meth c H locs cl sl (lw_Z below #[Value.ref b] s) (F0 m 285 ls [.int t0]) := by
  intro S T x11 t0 hf cl sl hcl H locs ls hw hl
  unfold fL_law_285 at hf
  refine lv_iconst (v := 1) C.1 C.2.1 dL_law_285 (by decide) ?_
  refine lv_goto (tgt := 290) C.1 C.2.1 dL_law_286 (by decide) ?_
  exact wL_law_290 C E hX hbl hL x3 x4 x5 x6 x7 x8 x9 x10 M SM hM k22 hk22 k111 hk111 k252 hk252 S T x11 t0 1 hf cl sl (by omega) _ _ _ hw (lv_sub hl [0, 1, 2, 3, 4, 5, 6, 7, 8, 9, 10, 11] rfl)
def fL_law_252 (L : Nat) (xs : Nat → Int32) (x3 : Int32) (x4 : Int32) (x5 : Int32) (x6 : Int32) (x7 : Int32) (x8 : Int32) (x9 : Int32) (x10 : Int32) (k22 : St → St → Int32 → Option Unit) (k111 : St → St → Int32 → Int32 → Int32 → Option Unit) : Nat → St → St → Int32 → Option Unit
  | 0, _, _, _ => none
  | n + 1, S, T, x11 =>
    if x5 ≤ x11 then
      fL_law_301 L xs x3 x4 x5 x6 k22 k111 S T x7 x8 x9
    else
      Option.bind (fX3_isBelow S x9 x11) fun v_44 =>
      if x11 = x10 then
        fL_law_285 L xs x3 x4 x5 x6 x7 x8 x9 x10 k22 k111 (fL_law_252 L xs x3 x4 x5 x6 x7 x8 x9 x10 k22 k111 n) S T x11 v_44
      else
        Option.bind (fX3_isBelow S x10 x11) fun v_45 =>
        if v_45 = 0 then
          fL_law_290 L xs x3 x4 x5 x6 x7 x8 x9 x10 k22 k111 (fL_law_252 L xs x3 x4 x5 x6 x7 x8 x9 x10 k22 k111 n) S T x11 v_44 0
        else
          fL_law_285 L xs x3 x4 x5 x6 x7 x8 x9 x10 k22 k111 (fL_law_252 L xs x3 x4 x5 x6 x7 x8 x9 x10 k22 k111 n) S T x11 v_44
set_option maxHeartbeats 4000000 in
set_option maxRecDepth 100000 in
theorem wL_law_252 {p : Program} {l : Launch} {e : Env} {s : State} {m : MethodId} {below : List Frame} {meth : Method} {c : Code} {b L : Nat} {xs : Nat → Int32} {D : va_G} {k : Nat → ClassId} {qx r : Nat → Nat} (C : Ctx p s m #[Value.ref b] meth c cL_law 17 RL ret) (E : gEL D k s) (hX : va_X b L xs s s.heap) (hbl : b < s.heap.size) (hL : L ≤ 260) {r1 : Unit} (x3 : Int32) (x4 : Int32) (x5 : Int32) (x6 : Int32) (x7 : Int32) (x8 : Int32) (x9 : Int32) (x10 : Int32) (M SM : Nat) (hM : M ≤ 30200 ∧ SM ≤ 724800) (k22 : St → St → Int32 → Option Unit) (hk22 : ∀ (S : St) (T : St) (x3 : Int32), k22 S T x3 = some r1 → ∀ (cl sl : Nat), cl ≤ M ∧ sl ≤ SM → ∀ (H : Heap) (locs : List Loc) (ls : Array Slot), gS D [] k qx r S T [] s H locs → lv_has ls 17 [(0, .ref (b)), (1, .ref (qx 0)), (2, .ref (r 0)), (3, .int x3)] → W p l e room_1 s m #[Value.ref b] below meth c H locs cl sl (lw_Z below #[Value.ref b] s) (F0 m 22 ls [])) (k111 : St → St → Int32 → Int32 → Int32 → Option Unit) (hk111 : ∀ (S : St) (T : St) (x7 : Int32) (x8 : Int32) (x9 : Int32), k111 S T x7 x8 x9 = some r1 → ∀ (cl sl : Nat), cl ≤ M ∧ sl ≤ SM → ∀ (H : Heap) (locs : List Loc) (ls : Array Slot), gS D [] k qx r S T [] s H locs → lv_has ls 17 [(0, .ref (b)), (1, .ref (qx 0)), (2, .ref (r 0)), (3, .int x3), (4, .int x4), (5, .int x5), (6, .int x6), (7, .int x7), (8, .int x8), (9, .int x9)] → W p l e room_1 s m #[Value.ref b] below meth c H locs cl sl (lw_Z below #[Value.ref b] s) (F0 m 111 ls [])) : ∀ (n : Nat) (S : St) (T : St) (x11 : Int32), fL_law_252 L xs x3 x4 x5 x6 x7 x8 x9 x10 k22 k111 n S T x11 = some r1 → ∀ (cl sl : Nat), cl ≤ M ∧ sl ≤ SM → ∀ (H : Heap) (locs : List Loc) (ls : Array Slot), gS D [] k qx r S T [] s H locs → lv_has ls 17 [(0, .ref (b)), (1, .ref (qx 0)), (2, .ref (r 0)), (3, .int x3), (4, .int x4), (5, .int x5), (6, .int x6), (7, .int x7), (8, .int x8), (9, .int x9), (10, .int x10), (11, .int x11)] → W p l e room_1 s m #[Value.ref b] below meth c H locs cl sl (lw_Z below #[Value.ref b] s) (F0 m 252 ls []) := by
  intro n
  induction n with
  | zero => intro S T x11 hf; rw [fL_law_252] at hf; cases hf
  | succ n ih =>
    intro S T x11 hf cl sl hcl H locs ls hw hl
    rw [fL_law_252] at hf
    refine lv_iload C.1 C.2.1 dL_law_252 (lv_at hl 11 rfl) ?_
    refine lv_iload C.1 C.2.1 dL_law_254 (lv_at hl 5 rfl) ?_
    refine lv_icmp_ge (tgt := 301) C.1 C.2.1 dL_law_256 (by decide) (fun hc => ?_) (fun hc => ?_)
    · have hf := ift hc hf
      exact wL_law_301 C E hX hbl hL x3 x4 x5 x6 M SM hM k22 hk22 k111 hk111 S T x7 x8 x9 hf cl sl (by omega) _ _ _ hw (lv_sub hl [0, 1, 2, 3, 4, 5, 6, 7, 8, 9] rfl)
    · have hf := iff_ hc hf
      refine lv_aload_n C.1 C.2.1 dL_law_259 rfl (lv_at hl 1 rfl) ?_
      refine lv_iload C.1 C.2.1 dL_law_260 (lv_at hl 9 rfl) ?_
      refine lv_iload C.1 C.2.1 dL_law_262 (lv_at hl 11 rfl) ?_
      obtain ⟨v_44, hv_44, hf⟩ := bnd hf
      refine l_xi (rm := ({ frames := 2, cells := 0, slots := 0, locals := 43 } : Room)) (As := [.int x9, .int x11]) (rest := []) C E hw F_X3_isBelow rfl (fun _ => ctX3_isBelow l (cI := k 0) (D := D) (q := qx) S x9 x11 _ hv_44) km_L_128 rfl hl.1 rfl (Nat.le_of_ble_eq_true rfl) ⟨(Nat.le_of_ble_eq_true rfl), (Nat.le_of_ble_eq_true rfl)⟩ ⟨(by omega : cl + 0 ≤ 600130), (by omega : sl + 0 ≤ 7301080)⟩ dL_law_264 (fun H locs hw => ?_)
      refine W.cs (cells' := cl) (slots' := sl) rfl rfl ?_
      refine lv_iload C.1 C.2.1 dL_law_267 (lv_at hl 11 rfl) ?_
      refine lv_iload C.1 C.2.1 dL_law_269 (lv_at hl 10 rfl) ?_
      refine lv_icmp_eq (tgt := 285) C.1 C.2.1 dL_law_271 (by decide) (fun hc => ?_) (fun hc => ?_)
      · have hf := ift hc hf
        exact wL_law_285 C E hX hbl hL x3 x4 x5 x6 x7 x8 x9 x10 M SM hM k22 hk22 k111 hk111 (fL_law_252 L xs x3 x4 x5 x6 x7 x8 x9 x10 k22 k111 n) ih S T x11 v_44 hf cl sl (by omega) _ _ _ hw (lv_sub hl [0, 1, 2, 3, 4, 5, 6, 7, 8, 9, 10, 11] rfl)
      · have hf := iff_ hc hf
        refine lv_aload_n C.1 C.2.1 dL_law_274 rfl (lv_at hl 1 rfl) ?_
        refine lv_iload C.1 C.2.1 dL_law_275 (lv_at hl 10 rfl) ?_
        refine lv_iload C.1 C.2.1 dL_law_277 (lv_at hl 11 rfl) ?_
        obtain ⟨v_45, hv_45, hf⟩ := bnd hf
        refine l_xi (rm := ({ frames := 2, cells := 0, slots := 0, locals := 43 } : Room)) (As := [.int x10, .int x11]) (rest := [.int v_44]) C E hw F_X3_isBelow rfl (fun _ => ctX3_isBelow l (cI := k 0) (D := D) (q := qx) S x10 x11 _ hv_45) km_L_128 rfl hl.1 rfl (Nat.le_of_ble_eq_true rfl) ⟨(Nat.le_of_ble_eq_true rfl), (Nat.le_of_ble_eq_true rfl)⟩ ⟨(by omega : cl + 0 ≤ 600130), (by omega : sl + 0 ≤ 7301080)⟩ dL_law_279 (fun H locs hw => ?_)
        refine W.cs (cells' := cl) (slots' := sl) rfl rfl ?_
        refine lv_if_eq (tgt := 289) C.1 C.2.1 dL_law_282 (by decide) (fun hc => ?_) (fun hc => ?_)
        · have hf := ift hc hf
          refine lv_iconst (v := 0) C.1 C.2.1 dL_law_289 (by decide) ?_
          exact wL_law_290 C E hX hbl hL x3 x4 x5 x6 x7 x8 x9 x10 M SM hM k22 hk22 k111 hk111 (fL_law_252 L xs x3 x4 x5 x6 x7 x8 x9 x10 k22 k111 n) ih S T x11 v_44 0 hf cl sl (by omega) _ _ _ hw (lv_sub hl [0, 1, 2, 3, 4, 5, 6, 7, 8, 9, 10, 11] rfl)
        · have hf := iff_ hc hf
          exact wL_law_285 C E hX hbl hL x3 x4 x5 x6 x7 x8 x9 x10 M SM hM k22 hk22 k111 hk111 (fL_law_252 L xs x3 x4 x5 x6 x7 x8 x9 x10 k22 k111 n) ih S T x11 v_44 hf cl sl (by omega) _ _ _ hw (lv_sub hl [0, 1, 2, 3, 4, 5, 6, 7, 8, 9, 10, 11] rfl)
def fL_law_171 (L : Nat) (xs : Nat → Int32) (x3 : Int32) (x4 : Int32) (x5 : Int32) (x6 : Int32) (k22 : St → St → Int32 → Option Unit) (k111 : St → St → Int32 → Int32 → Int32 → Option Unit) (S : St) (T : St) (x7 : Int32) (x8 : Int32) (x9 : Int32) (t0 : Int32) (t1 : Int32) : Option Unit :=
  if t0 = t1 then
    Option.bind (fX3_dreamsWith S x9) fun v_21 =>
    if v_21 ≤ x6 then
      Option.bind (fX3_hasParent S x9) fun v_22 =>
      if v_22 = 0 then
        fL_law_301 L xs x3 x4 x5 x6 k22 k111 S T x7 x8 x9
      else
        Option.bind (fX3_parentOf S x9) fun v_23 =>
        Option.bind (fX3_tagsAbove S x9) fun v_24 =>
        Option.bind (fX3_tagsAbove S v_23) fun v_25 =>
        if v_24 = (1 + v_25) then
          Option.bind (fX3_isBelow S x9 v_23) fun v_26 =>
          if v_26 = 0 then
            none
          else
            Option.bind (fX3_dreamsWith S v_23) fun v_27 =>
            Option.bind (fX3_dreamsWith S x9) fun v_28 =>
            if v_28 ≤ v_27 then
              fL_law_252 L xs x3 x4 x5 x6 x7 x8 x9 v_23 k22 k111 100 S T 0
            else
              none
        else
          none
    else
      none
  else
    none
set_option maxHeartbeats 4000000 in
set_option maxRecDepth 100000 in
theorem wL_law_171 {p : Program} {l : Launch} {e : Env} {s : State} {m : MethodId} {below : List Frame} {meth : Method} {c : Code} {b L : Nat} {xs : Nat → Int32} {D : va_G} {k : Nat → ClassId} {qx r : Nat → Nat} (C : Ctx p s m #[Value.ref b] meth c cL_law 17 RL ret) (E : gEL D k s) (hX : va_X b L xs s s.heap) (hbl : b < s.heap.size) (hL : L ≤ 260) {r1 : Unit} (x3 : Int32) (x4 : Int32) (x5 : Int32) (x6 : Int32) (M SM : Nat) (hM : M ≤ 30200 ∧ SM ≤ 724800) (k22 : St → St → Int32 → Option Unit) (hk22 : ∀ (S : St) (T : St) (x3 : Int32), k22 S T x3 = some r1 → ∀ (cl sl : Nat), cl ≤ M ∧ sl ≤ SM → ∀ (H : Heap) (locs : List Loc) (ls : Array Slot), gS D [] k qx r S T [] s H locs → lv_has ls 17 [(0, .ref (b)), (1, .ref (qx 0)), (2, .ref (r 0)), (3, .int x3)] → W p l e room_1 s m #[Value.ref b] below meth c H locs cl sl (lw_Z below #[Value.ref b] s) (F0 m 22 ls [])) (k111 : St → St → Int32 → Int32 → Int32 → Option Unit) (hk111 : ∀ (S : St) (T : St) (x7 : Int32) (x8 : Int32) (x9 : Int32), k111 S T x7 x8 x9 = some r1 → ∀ (cl sl : Nat), cl ≤ M ∧ sl ≤ SM → ∀ (H : Heap) (locs : List Loc) (ls : Array Slot), gS D [] k qx r S T [] s H locs → lv_has ls 17 [(0, .ref (b)), (1, .ref (qx 0)), (2, .ref (r 0)), (3, .int x3), (4, .int x4), (5, .int x5), (6, .int x6), (7, .int x7), (8, .int x8), (9, .int x9)] → W p l e room_1 s m #[Value.ref b] below meth c H locs cl sl (lw_Z below #[Value.ref b] s) (F0 m 111 ls [])) : ∀ (S : St) (T : St) (x7 : Int32) (x8 : Int32) (x9 : Int32) (t0 : Int32) (t1 : Int32), fL_law_171 L xs x3 x4 x5 x6 k22 k111 S T x7 x8 x9 t0 t1 = some r1 → ∀ (cl sl : Nat), cl ≤ M ∧ sl ≤ SM → ∀ (H : Heap) (locs : List Loc) (ls : Array Slot), gS D [] k qx r S T [] s H locs → lv_has ls 17 [(0, .ref (b)), (1, .ref (qx 0)), (2, .ref (r 0)), (3, .int x3), (4, .int x4), (5, .int x5), (6, .int x6), (7, .int x7), (8, .int x8), (9, .int x9)] → W p l e room_1 s m #[Value.ref b] below meth c H locs cl sl (lw_Z below #[Value.ref b] s) (F0 m 171 ls [.int t1, .int t0]) := by
  intro S T x7 x8 x9 t0 t1 hf cl sl hcl H locs ls hw hl
  unfold fL_law_171 at hf
  refine lv_icmp_ne (tgt := 185) C.1 C.2.1 dL_law_171 (by decide) (fun hc => ?_) (fun hc => ?_)
  · have hf := iff_ hc hf
    refine lv_iconst (v := 0) C.1 C.2.1 dL_law_185 (by decide) ?_
    cases hf
  · have hf := ift hc hf
    refine lv_aload_n C.1 C.2.1 dL_law_174 rfl (lv_at hl 1 rfl) ?_
    refine lv_iload C.1 C.2.1 dL_law_175 (lv_at hl 9 rfl) ?_
    obtain ⟨v_21, hv_21, hf⟩ := bnd hf
    refine l_xi (rm := ({ frames := 2, cells := 0, slots := 0, locals := 44 } : Room)) (As := [.int x9]) (rest := []) C E hw F_X3_dreamsWith rfl (fun _ => ctX3_dreamsWith l (cI := k 0) (D := D) (q := qx) S x9 _ hv_21) km_L_133 rfl hl.1 rfl (Nat.le_of_ble_eq_true rfl) ⟨(Nat.le_of_ble_eq_true rfl), (Nat.le_of_ble_eq_true rfl)⟩ ⟨(by omega : cl + 0 ≤ 600130), (by omega : sl + 0 ≤ 7301080)⟩ dL_law_177 (fun H locs hw => ?_)
    refine W.cs (cells' := cl) (slots' := sl) rfl rfl ?_
    refine lv_iload C.1 C.2.1 dL_law_180 (lv_at hl 6 rfl) ?_
    refine lv_icmp_le (tgt := 187) C.1 C.2.1 dL_law_182 (by decide) (fun hc => ?_) (fun hc => ?_)
    · have hf := ift hc hf
      refine lv_aload_n C.1 C.2.1 dL_law_187 rfl (lv_at hl 1 rfl) ?_
      refine lv_iload C.1 C.2.1 dL_law_188 (lv_at hl 9 rfl) ?_
      obtain ⟨v_22, hv_22, hf⟩ := bnd hf
      refine l_xi (rm := ({ frames := 1, cells := 0, slots := 0, locals := 21 } : Room)) (As := [.int x9]) (rest := []) C E hw F_X3_hasParent rfl (fun _ => ctX3_hasParent l (cI := k 0) (D := D) (q := qx) S x9 _ hv_22) km_L_129 rfl hl.1 rfl (Nat.le_of_ble_eq_true rfl) ⟨(Nat.le_of_ble_eq_true rfl), (Nat.le_of_ble_eq_true rfl)⟩ ⟨(by omega : cl + 0 ≤ 600130), (by omega : sl + 0 ≤ 7301080)⟩ dL_law_190 (fun H locs hw => ?_)
      refine W.cs (cells' := cl) (slots' := sl) rfl rfl ?_
      refine lv_if_eq (tgt := 301) C.1 C.2.1 dL_law_193 (by decide) (fun hc => ?_) (fun hc => ?_)
      · have hf := ift hc hf
        exact wL_law_301 C E hX hbl hL x3 x4 x5 x6 M SM hM k22 hk22 k111 hk111 S T x7 x8 x9 hf cl sl (by omega) _ _ _ hw (lv_sub hl [0, 1, 2, 3, 4, 5, 6, 7, 8, 9] rfl)
      · have hf := iff_ hc hf
        refine lv_aload_n C.1 C.2.1 dL_law_196 rfl (lv_at hl 1 rfl) ?_
        refine lv_iload C.1 C.2.1 dL_law_197 (lv_at hl 9 rfl) ?_
        obtain ⟨v_23, hv_23, hf⟩ := bnd hf
        refine l_xi (rm := ({ frames := 2, cells := 0, slots := 0, locals := 42 } : Room)) (As := [.int x9]) (rest := []) C E hw F_X3_parentOf rfl (fun _ => ctX3_parentOf l (cI := k 0) (D := D) (q := qx) S x9 _ hv_23) km_L_136 rfl hl.1 rfl (Nat.le_of_ble_eq_true rfl) ⟨(Nat.le_of_ble_eq_true rfl), (Nat.le_of_ble_eq_true rfl)⟩ ⟨(by omega : cl + 0 ≤ 600130), (by omega : sl + 0 ≤ 7301080)⟩ dL_law_199 (fun H locs hw => ?_)
        refine W.cs (cells' := cl) (slots' := sl) rfl rfl ?_
        refine lv_istore (lv' := [(10, .int v_23), (0, .ref (b)), (1, .ref (qx 0)), (2, .ref (r 0)), (3, .int x3), (4, .int x4), (5, .int x5), (6, .int x6), (7, .int x7), (8, .int x8), (9, .int x9)]) C.1 C.2.1 dL_law_202 hl (by decide) rfl (fun ls hl => ?_)
        refine lv_aload_n C.1 C.2.1 dL_law_204 rfl (lv_at hl 2 rfl) ?_
        refine lv_iload C.1 C.2.1 dL_law_205 (lv_at hl 10 rfl) ?_
        obtain ⟨v_24, hv_24, hf⟩ := bnd hf
        refine l_xi (rm := ({ frames := 2, cells := 0, slots := 0, locals := 41 } : Room)) (As := [.int x9]) (rest := []) C E hw F_X3_tagsAbove rfl (fun _ => ctX3_tagsAbove l (cI := k 0) (D := D) (q := qx) S x9 _ hv_24) km_L_122 rfl hl.1 rfl (Nat.le_of_ble_eq_true rfl) ⟨(Nat.le_of_ble_eq_true rfl), (Nat.le_of_ble_eq_true rfl)⟩ ⟨(by omega : cl + 0 ≤ 600130), (by omega : sl + 0 ≤ 7301080)⟩ dL_law_207 (fun H locs hw => ?_)
        refine W.cs (cells' := cl) (slots' := sl) rfl rfl ?_
        refine lv_iconst (v := 1) C.1 C.2.1 dL_law_210 (by decide) ?_
        refine lv_aload_n C.1 C.2.1 dL_law_211 rfl (lv_at hl 2 rfl) ?_
        refine lv_iload C.1 C.2.1 dL_law_212 (lv_at hl 0 rfl) ?_
        obtain ⟨v_25, hv_25, hf⟩ := bnd hf
        refine l_xi (rm := ({ frames := 2, cells := 0, slots := 0, locals := 41 } : Room)) (As := [.int v_23]) (rest := [.int 1, .int v_24]) C E hw F_X3_tagsAbove rfl (fun _ => ctX3_tagsAbove l (cI := k 0) (D := D) (q := qx) S v_23 _ hv_25) km_L_122 rfl hl.1 rfl (Nat.le_of_ble_eq_true rfl) ⟨(Nat.le_of_ble_eq_true rfl), (Nat.le_of_ble_eq_true rfl)⟩ ⟨(by omega : cl + 0 ≤ 600130), (by omega : sl + 0 ≤ 7301080)⟩ dL_law_214 (fun H locs hw => ?_)
        refine W.cs (cells' := cl) (slots' := sl) rfl rfl ?_
        refine lv_iadd C.1 C.2.1 dL_law_217 ?_
        refine lv_icmp_ne (tgt := 247) C.1 C.2.1 dL_law_218 (by decide) (fun hc => ?_) (fun hc => ?_)
        · have hf := iff_ hc hf
          refine lv_iconst (v := 0) C.1 C.2.1 dL_law_247 (by decide) ?_
          cases hf
        · have hf := ift hc hf
          refine lv_aload_n C.1 C.2.1 dL_law_221 rfl (lv_at hl 2 rfl) ?_
          refine lv_iload C.1 C.2.1 dL_law_222 (lv_at hl 10 rfl) ?_
          refine lv_iload C.1 C.2.1 dL_law_224 (lv_at hl 0 rfl) ?_
          obtain ⟨v_26, hv_26, hf⟩ := bnd hf
          refine l_xi (rm := ({ frames := 2, cells := 0, slots := 0, locals := 43 } : Room)) (As := [.int x9, .int v_23]) (rest := []) C E hw F_X3_isBelow rfl (fun _ => ctX3_isBelow l (cI := k 0) (D := D) (q := qx) S x9 v_23 _ hv_26) km_L_128 rfl hl.1 rfl (Nat.le_of_ble_eq_true rfl) ⟨(Nat.le_of_ble_eq_true rfl), (Nat.le_of_ble_eq_true rfl)⟩ ⟨(by omega : cl + 0 ≤ 600130), (by omega : sl + 0 ≤ 7301080)⟩ dL_law_226 (fun H locs hw => ?_)
          refine W.cs (cells' := cl) (slots' := sl) rfl rfl ?_
          refine lv_if_eq (tgt := 247) C.1 C.2.1 dL_law_229 (by decide) (fun hc => ?_) (fun hc => ?_)
          · have hf := ift hc hf
            refine lv_iconst (v := 0) C.1 C.2.1 dL_law_247 (by decide) ?_
            cases hf
          · have hf := iff_ hc hf
            refine lv_aload_n C.1 C.2.1 dL_law_232 rfl (lv_at hl 2 rfl) ?_
            refine lv_iload C.1 C.2.1 dL_law_233 (lv_at hl 0 rfl) ?_
            obtain ⟨v_27, hv_27, hf⟩ := bnd hf
            refine l_xi (rm := ({ frames := 2, cells := 0, slots := 0, locals := 44 } : Room)) (As := [.int v_23]) (rest := []) C E hw F_X3_dreamsWith rfl (fun _ => ctX3_dreamsWith l (cI := k 0) (D := D) (q := qx) S v_23 _ hv_27) km_L_133 rfl hl.1 rfl (Nat.le_of_ble_eq_true rfl) ⟨(Nat.le_of_ble_eq_true rfl), (Nat.le_of_ble_eq_true rfl)⟩ ⟨(by omega : cl + 0 ≤ 600130), (by omega : sl + 0 ≤ 7301080)⟩ dL_law_235 (fun H locs hw => ?_)
            refine W.cs (cells' := cl) (slots' := sl) rfl rfl ?_
            refine lv_aload_n C.1 C.2.1 dL_law_238 rfl (lv_at hl 2 rfl) ?_
            refine lv_iload C.1 C.2.1 dL_law_239 (lv_at hl 10 rfl) ?_
            obtain ⟨v_28, hv_28, hf⟩ := bnd hf
            refine l_xi (rm := ({ frames := 2, cells := 0, slots := 0, locals := 44 } : Room)) (As := [.int x9]) (rest := [.int v_27]) C E hw F_X3_dreamsWith rfl (fun _ => ctX3_dreamsWith l (cI := k 0) (D := D) (q := qx) S x9 _ hv_28) km_L_133 rfl hl.1 rfl (Nat.le_of_ble_eq_true rfl) ⟨(Nat.le_of_ble_eq_true rfl), (Nat.le_of_ble_eq_true rfl)⟩ ⟨(by omega : cl + 0 ≤ 600130), (by omega : sl + 0 ≤ 7301080)⟩ dL_law_241 (fun H locs hw => ?_)
            refine W.cs (cells' := cl) (slots' := sl) rfl rfl ?_
            refine lv_icmp_ge (tgt := 249) C.1 C.2.1 dL_law_244 (by decide) (fun hc => ?_) (fun hc => ?_)
            · have hf := ift hc hf
              refine lv_iconst (v := 0) C.1 C.2.1 dL_law_249 (by decide) ?_
              refine lv_istore (lv' := [(11, .int 0), (10, .int v_23), (0, .ref (b)), (1, .ref (qx 0)), (2, .ref (r 0)), (3, .int x3), (4, .int x4), (5, .int x5), (6, .int x6), (7, .int x7), (8, .int x8), (9, .int x9)]) C.1 C.2.1 dL_law_250 hl (by decide) rfl (fun ls hl => ?_)
              exact wL_law_252 C E hX hbl hL x3 x4 x5 x6 x7 x8 x9 v_23 M SM hM k22 hk22 k111 hk111 100 S T 0 hf cl sl (by omega) _ _ _ hw (lv_sub hl [2, 3, 4, 5, 6, 7, 8, 9, 10, 11, 1, 0] rfl)
            · have hf := iff_ hc hf
              refine lv_iconst (v := 0) C.1 C.2.1 dL_law_247 (by decide) ?_
              cases hf
    · have hf := iff_ hc hf
      refine lv_iconst (v := 0) C.1 C.2.1 dL_law_185 (by decide) ?_
      cases hf
def fL_law_111 (L : Nat) (xs : Nat → Int32) (x3 : Int32) (x4 : Int32) (x5 : Int32) (x6 : Int32) (k22 : St → St → Int32 → Option Unit) : Nat → St → St → Int32 → Int32 → Int32 → Option Unit
  | 0, _, _, _, _, _ => none
  | n + 1, S, T, x7, x8, x9 =>
    if x5 ≤ x9 then
      if x7 = x8 then
        fL_law_425 L xs x3 x5 x6 k22 100 S T 0 0 0
      else
        none
    else
      Option.bind (fX3_tagsAbove S x9) fun v_11 =>
      Option.bind (some ((x7 + v_11))) fun x7_12 =>
      Option.bind (fX3_tagsBelow S x9) fun v_13 =>
      Option.bind (some ((x8 + v_13))) fun x8_14 =>
      Option.bind (fX3_isBelow S x9 x9) fun v_15 =>
      if v_15 = 0 then
        Option.bind (fX3_hasParent S x9) fun v_16 =>
        Option.bind (fX3_tagsAbove S x9) fun v_17 =>
        if v_17 ≤ 0 then
          fL_law_171 L xs x3 x4 x5 x6 k22 (fL_law_111 L xs x3 x4 x5 x6 k22 n) S T x7_12 x8_14 x9 v_16 0
        else
          fL_law_171 L xs x3 x4 x5 x6 k22 (fL_law_111 L xs x3 x4 x5 x6 k22 n) S T x7_12 x8_14 x9 v_16 1
      else
        none
set_option maxHeartbeats 4000000 in
set_option maxRecDepth 100000 in
theorem wL_law_111 {p : Program} {l : Launch} {e : Env} {s : State} {m : MethodId} {below : List Frame} {meth : Method} {c : Code} {b L : Nat} {xs : Nat → Int32} {D : va_G} {k : Nat → ClassId} {qx r : Nat → Nat} (C : Ctx p s m #[Value.ref b] meth c cL_law 17 RL ret) (E : gEL D k s) (hX : va_X b L xs s s.heap) (hbl : b < s.heap.size) (hL : L ≤ 260) {r1 : Unit} (x3 : Int32) (x4 : Int32) (x5 : Int32) (x6 : Int32) (M SM : Nat) (hM : M ≤ 30200 ∧ SM ≤ 724800) (k22 : St → St → Int32 → Option Unit) (hk22 : ∀ (S : St) (T : St) (x3 : Int32), k22 S T x3 = some r1 → ∀ (cl sl : Nat), cl ≤ M ∧ sl ≤ SM → ∀ (H : Heap) (locs : List Loc) (ls : Array Slot), gS D [] k qx r S T [] s H locs → lv_has ls 17 [(0, .ref (b)), (1, .ref (qx 0)), (2, .ref (r 0)), (3, .int x3)] → W p l e room_1 s m #[Value.ref b] below meth c H locs cl sl (lw_Z below #[Value.ref b] s) (F0 m 22 ls [])) : ∀ (n : Nat) (S : St) (T : St) (x7 : Int32) (x8 : Int32) (x9 : Int32), fL_law_111 L xs x3 x4 x5 x6 k22 n S T x7 x8 x9 = some r1 → ∀ (cl sl : Nat), cl ≤ M ∧ sl ≤ SM → ∀ (H : Heap) (locs : List Loc) (ls : Array Slot), gS D [] k qx r S T [] s H locs → lv_has ls 17 [(0, .ref (b)), (1, .ref (qx 0)), (2, .ref (r 0)), (3, .int x3), (4, .int x4), (5, .int x5), (6, .int x6), (7, .int x7), (8, .int x8), (9, .int x9)] → W p l e room_1 s m #[Value.ref b] below meth c H locs cl sl (lw_Z below #[Value.ref b] s) (F0 m 111 ls []) := by
  intro n
  induction n with
  | zero => intro S T x7 x8 x9 hf; rw [fL_law_111] at hf; cases hf
  | succ n ih =>
    intro S T x7 x8 x9 hf cl sl hcl H locs ls hw hl
    rw [fL_law_111] at hf
    refine lv_iload C.1 C.2.1 dL_law_111 (lv_at hl 9 rfl) ?_
    refine lv_iload C.1 C.2.1 dL_law_113 (lv_at hl 5 rfl) ?_
    refine lv_icmp_ge (tgt := 407) C.1 C.2.1 dL_law_115 (by decide) (fun hc => ?_) (fun hc => ?_)
    · have hf := ift hc hf
      refine lv_iload C.1 C.2.1 dL_law_407 (lv_at hl 7 rfl) ?_
      refine lv_iload C.1 C.2.1 dL_law_409 (lv_at hl 8 rfl) ?_
      refine lv_icmp_eq (tgt := 416) C.1 C.2.1 dL_law_411 (by decide) (fun hc => ?_) (fun hc => ?_)
      · have hf := ift hc hf
        refine lv_iconst (v := 0) C.1 C.2.1 dL_law_416 (by decide) ?_
        refine lv_istore (lv' := [(9, .int 0), (0, .ref (b)), (1, .ref (qx 0)), (2, .ref (r 0)), (3, .int x3), (4, .int x4), (5, .int x5), (6, .int x6), (7, .int x7), (8, .int x8)]) C.1 C.2.1 dL_law_417 hl (by decide) rfl (fun ls hl => ?_)
        refine lv_iconst (v := 0) C.1 C.2.1 dL_law_419 (by decide) ?_
        refine lv_istore (lv' := [(10, .int 0), (9, .int 0), (0, .ref (b)), (1, .ref (qx 0)), (2, .ref (r 0)), (3, .int x3), (4, .int x4), (5, .int x5), (6, .int x6), (7, .int x7), (8, .int x8)]) C.1 C.2.1 dL_law_420 hl (by decide) rfl (fun ls hl => ?_)
        refine lv_iconst (v := 0) C.1 C.2.1 dL_law_422 (by decide) ?_
        refine lv_istore (lv' := [(11, .int 0), (10, .int 0), (9, .int 0), (0, .ref (b)), (1, .ref (qx 0)), (2, .ref (r 0)), (3, .int x3), (4, .int x4), (5, .int x5), (6, .int x6), (7, .int x7), (8, .int x8)]) C.1 C.2.1 dL_law_423 hl (by decide) rfl (fun ls hl => ?_)
        exact wL_law_425 C E hX hbl hL x3 x5 x6 M SM hM k22 hk22 100 S T 0 0 0 hf cl sl (by omega) _ _ _ hw (lv_sub hl [3, 4, 5, 6, 8, 9, 2, 1, 0] rfl)
      · have hf := iff_ hc hf
        refine lv_iconst (v := 0) C.1 C.2.1 dL_law_414 (by decide) ?_
        cases hf
    · have hf := iff_ hc hf
      refine lv_iload C.1 C.2.1 dL_law_118 (lv_at hl 7 rfl) ?_
      refine lv_aload_n C.1 C.2.1 dL_law_120 rfl (lv_at hl 1 rfl) ?_
      refine lv_iload C.1 C.2.1 dL_law_121 (lv_at hl 9 rfl) ?_
      obtain ⟨v_11, hv_11, hf⟩ := bnd hf
      refine l_xi (rm := ({ frames := 2, cells := 0, slots := 0, locals := 41 } : Room)) (As := [.int x9]) (rest := [.int x7]) C E hw F_X3_tagsAbove rfl (fun _ => ctX3_tagsAbove l (cI := k 0) (D := D) (q := qx) S x9 _ hv_11) km_L_122 rfl hl.1 rfl (Nat.le_of_ble_eq_true rfl) ⟨(Nat.le_of_ble_eq_true rfl), (Nat.le_of_ble_eq_true rfl)⟩ ⟨(by omega : cl + 0 ≤ 600130), (by omega : sl + 0 ≤ 7301080)⟩ dL_law_123 (fun H locs hw => ?_)
      refine W.cs (cells' := cl) (slots' := sl) rfl rfl ?_
      refine lv_iadd C.1 C.2.1 dL_law_126 ?_
      obtain ⟨x7_12, hx7_12, hf⟩ := bnd hf
      refine topi_b hx7_12 ?_
      refine lv_istore (lv' := [(7, .int x7_12), (0, .ref (b)), (1, .ref (qx 0)), (2, .ref (r 0)), (3, .int x3), (4, .int x4), (5, .int x5), (6, .int x6), (8, .int x8), (9, .int x9)]) C.1 C.2.1 dL_law_127 hl (by decide) rfl (fun ls hl => ?_)
      refine lv_iload C.1 C.2.1 dL_law_129 (lv_at hl 8 rfl) ?_
      refine lv_aload_n C.1 C.2.1 dL_law_131 rfl (lv_at hl 2 rfl) ?_
      refine lv_iload C.1 C.2.1 dL_law_132 (lv_at hl 9 rfl) ?_
      obtain ⟨v_13, hv_13, hf⟩ := bnd hf
      refine l_xi (rm := ({ frames := 3, cells := 0, slots := 0, locals := 66 } : Room)) (As := [.int x9]) (rest := [.int x8]) C E hw F_X3_tagsBelow rfl (fun _ => ctX3_tagsBelow l (cI := k 0) (D := D) (q := qx) S x9 _ hv_13) km_L_125 rfl hl.1 rfl (Nat.le_of_ble_eq_true rfl) ⟨(Nat.le_of_ble_eq_true rfl), (Nat.le_of_ble_eq_true rfl)⟩ ⟨(by omega : cl + 0 ≤ 600130), (by omega : sl + 0 ≤ 7301080)⟩ dL_law_134 (fun H locs hw => ?_)
      refine W.cs (cells' := cl) (slots' := sl) rfl rfl ?_
      refine lv_iadd C.1 C.2.1 dL_law_137 ?_
      obtain ⟨x8_14, hx8_14, hf⟩ := bnd hf
      refine topi_b hx8_14 ?_
      refine lv_istore (lv' := [(8, .int x8_14), (7, .int x7_12), (0, .ref (b)), (1, .ref (qx 0)), (2, .ref (r 0)), (3, .int x3), (4, .int x4), (5, .int x5), (6, .int x6), (9, .int x9)]) C.1 C.2.1 dL_law_138 hl (by decide) rfl (fun ls hl => ?_)
      refine lv_aload_n C.1 C.2.1 dL_law_140 rfl (lv_at hl 3 rfl) ?_
      refine lv_iload C.1 C.2.1 dL_law_141 (lv_at hl 9 rfl) ?_
      refine lv_iload C.1 C.2.1 dL_law_143 (lv_at hl 9 rfl) ?_
      obtain ⟨v_15, hv_15, hf⟩ := bnd hf
      refine l_xi (rm := ({ frames := 2, cells := 0, slots := 0, locals := 43 } : Room)) (As := [.int x9, .int x9]) (rest := []) C E hw F_X3_isBelow rfl (fun _ => ctX3_isBelow l (cI := k 0) (D := D) (q := qx) S x9 x9 _ hv_15) km_L_128 rfl hl.1 rfl (Nat.le_of_ble_eq_true rfl) ⟨(Nat.le_of_ble_eq_true rfl), (Nat.le_of_ble_eq_true rfl)⟩ ⟨(by omega : cl + 0 ≤ 600130), (by omega : sl + 0 ≤ 7301080)⟩ dL_law_145 (fun H locs hw => ?_)
      refine W.cs (cells' := cl) (slots' := sl) rfl rfl ?_
      refine lv_if_ne (tgt := 185) C.1 C.2.1 dL_law_148 (by decide) (fun hc => ?_) (fun hc => ?_)
      · have hf := iff_ hc hf
        refine lv_iconst (v := 0) C.1 C.2.1 dL_law_185 (by decide) ?_
        cases hf
      · have hf := ift hc hf
        refine lv_aload_n C.1 C.2.1 dL_law_151 rfl (lv_at hl 3 rfl) ?_
        refine lv_iload C.1 C.2.1 dL_law_152 (lv_at hl 9 rfl) ?_
        obtain ⟨v_16, hv_16, hf⟩ := bnd hf
        refine l_xi (rm := ({ frames := 1, cells := 0, slots := 0, locals := 21 } : Room)) (As := [.int x9]) (rest := []) C E hw F_X3_hasParent rfl (fun _ => ctX3_hasParent l (cI := k 0) (D := D) (q := qx) S x9 _ hv_16) km_L_129 rfl hl.1 rfl (Nat.le_of_ble_eq_true rfl) ⟨(Nat.le_of_ble_eq_true rfl), (Nat.le_of_ble_eq_true rfl)⟩ ⟨(by omega : cl + 0 ≤ 600130), (by omega : sl + 0 ≤ 7301080)⟩ dL_law_154 (fun H locs hw => ?_)
        refine W.cs (cells' := cl) (slots' := sl) rfl rfl ?_
        refine lv_aload_n C.1 C.2.1 dL_law_157 rfl (lv_at hl 3 rfl) ?_
        refine lv_iload C.1 C.2.1 dL_law_158 (lv_at hl 9 rfl) ?_
        obtain ⟨v_17, hv_17, hf⟩ := bnd hf
        refine l_xi (rm := ({ frames := 2, cells := 0, slots := 0, locals := 41 } : Room)) (As := [.int x9]) (rest := [.int v_16]) C E hw F_X3_tagsAbove rfl (fun _ => ctX3_tagsAbove l (cI := k 0) (D := D) (q := qx) S x9 _ hv_17) km_L_122 rfl hl.1 rfl (Nat.le_of_ble_eq_true rfl) ⟨(Nat.le_of_ble_eq_true rfl), (Nat.le_of_ble_eq_true rfl)⟩ ⟨(by omega : cl + 0 ≤ 600130), (by omega : sl + 0 ≤ 7301080)⟩ dL_law_160 (fun H locs hw => ?_)
        refine W.cs (cells' := cl) (slots' := sl) rfl rfl ?_
        refine lv_if_le (tgt := 170) C.1 C.2.1 dL_law_163 (by decide) (fun hc => ?_) (fun hc => ?_)
        · have hf := ift hc hf
          refine lv_iconst (v := 0) C.1 C.2.1 dL_law_170 (by decide) ?_
          exact wL_law_171 C E hX hbl hL x3 x4 x5 x6 M SM hM k22 hk22 (fL_law_111 L xs x3 x4 x5 x6 k22 n) ih S T x7_12 x8_14 x9 v_16 0 hf cl sl (by omega) _ _ _ hw (lv_sub hl [2, 3, 4, 5, 6, 7, 8, 1, 0, 9] rfl)
        · have hf := iff_ hc hf
          refine lv_iconst (v := 1) C.1 C.2.1 dL_law_166 (by decide) ?_
          refine lv_goto (tgt := 171) C.1 C.2.1 dL_law_167 (by decide) ?_
          exact wL_law_171 C E hX hbl hL x3 x4 x5 x6 M SM hM k22 hk22 (fL_law_111 L xs x3 x4 x5 x6 k22 n) ih S T x7_12 x8_14 x9 v_16 1 hf cl sl (by omega) _ _ _ hw (lv_sub hl [2, 3, 4, 5, 6, 7, 8, 1, 0, 9] rfl)
def fL_law_54 (L : Nat) (xs : Nat → Int32) (x3 : Int32) (x4 : Int32) (k22 : St → St → Int32 → Option Unit) : Nat → St → St → Int32 → Option Unit
  | 0, _, _, _ => none
  | n + 1, S, T, x5 =>
    if 2 ≤ x5 then
      Option.bind (fX3_tags S) fun v_5 =>
      Option.bind (fX3_dreams S) fun v_6 =>
      fL_law_111 L xs x3 x4 v_5 v_6 k22 100 S T 0 0 0
    else
      Option.bind (fL_act S T ((x4 >>> ((2 * x5) &&& 31)) + (397 * x5))) fun u_9 => pr u_9 fun S_7 T_8 =>
      Option.bind (some (x5 + 1)) fun x5_10 =>
      fL_law_54 L xs x3 x4 k22 n S_7 T_8 x5_10
set_option maxHeartbeats 4000000 in
set_option maxRecDepth 100000 in
theorem wL_law_54 {p : Program} {l : Launch} {e : Env} {s : State} {m : MethodId} {below : List Frame} {meth : Method} {c : Code} {b L : Nat} {xs : Nat → Int32} {D : va_G} {k : Nat → ClassId} {qx r : Nat → Nat} (C : Ctx p s m #[Value.ref b] meth c cL_law 17 RL ret) (E : gEL D k s) (hX : va_X b L xs s s.heap) (hbl : b < s.heap.size) (hL : L ≤ 260) {r1 : Unit} (x3 : Int32) (x4 : Int32) (M SM : Nat) (hM : M ≤ 30200 ∧ SM ≤ 724800) (k22 : St → St → Int32 → Option Unit) (hk22 : ∀ (S : St) (T : St) (x3 : Int32), k22 S T x3 = some r1 → ∀ (cl sl : Nat), cl ≤ M ∧ sl ≤ SM → ∀ (H : Heap) (locs : List Loc) (ls : Array Slot), gS D [] k qx r S T [] s H locs → lv_has ls 17 [(0, .ref (b)), (1, .ref (qx 0)), (2, .ref (r 0)), (3, .int x3)] → W p l e room_1 s m #[Value.ref b] below meth c H locs cl sl (lw_Z below #[Value.ref b] s) (F0 m 22 ls [])) : ∀ (n : Nat) (S : St) (T : St) (x5 : Int32), fL_law_54 L xs x3 x4 k22 n S T x5 = some r1 → ∀ (cl sl : Nat), cl + n ≤ M ∧ sl + 24 * n ≤ SM → ∀ (H : Heap) (locs : List Loc) (ls : Array Slot), gS D [] k qx r S T [] s H locs → lv_has ls 17 [(0, .ref (b)), (1, .ref (qx 0)), (2, .ref (r 0)), (3, .int x3), (4, .int x4), (5, .int x5)] → W p l e room_1 s m #[Value.ref b] below meth c H locs cl sl (lw_Z below #[Value.ref b] s) (F0 m 54 ls []) := by
  intro n
  induction n with
  | zero => intro S T x5 hf; rw [fL_law_54] at hf; cases hf
  | succ n ih =>
    intro S T x5 hf cl sl hcl H locs ls hw hl
    rw [fL_law_54] at hf
    refine lv_iload C.1 C.2.1 dL_law_54 (lv_at hl 5 rfl) ?_
    refine lv_iconst (v := 2) C.1 C.2.1 dL_law_56 (by decide) ?_
    refine lv_icmp_ge (tgt := 90) C.1 C.2.1 dL_law_57 (by decide) (fun hc => ?_) (fun hc => ?_)
    · have hf := ift hc hf
      refine lv_aload_n C.1 C.2.1 dL_law_90 rfl (lv_at hl 1 rfl) ?_
      obtain ⟨v_5, hv_5, hf⟩ := bnd hf
      refine l_xi (rm := ({ frames := 0, cells := 0, slots := 0, locals := 0 } : Room)) (As := []) (rest := []) C E hw F_X3_tags rfl (fun _ => ctX3_tags l (cI := k 0) (D := D) (q := qx) S _ hv_5) km_L_118 rfl hl.1 rfl (Nat.le_of_ble_eq_true rfl) ⟨(Nat.le_of_ble_eq_true rfl), (Nat.le_of_ble_eq_true rfl)⟩ ⟨(by omega : cl + 0 ≤ 600130), (by omega : sl + 0 ≤ 7301080)⟩ dL_law_91 (fun H locs hw => ?_)
      refine W.cs (cells' := cl) (slots' := sl) rfl rfl ?_
      refine lv_istore (lv' := [(5, .int v_5), (0, .ref (b)), (1, .ref (qx 0)), (2, .ref (r 0)), (3, .int x3), (4, .int x4)]) C.1 C.2.1 dL_law_94 hl (by decide) rfl (fun ls hl => ?_)
      refine lv_aload_n C.1 C.2.1 dL_law_96 rfl (lv_at hl 2 rfl) ?_
      obtain ⟨v_6, hv_6, hf⟩ := bnd hf
      refine l_xi (rm := ({ frames := 0, cells := 0, slots := 0, locals := 0 } : Room)) (As := []) (rest := []) C E hw F_X3_dreams rfl (fun _ => ctX3_dreams l (cI := k 0) (D := D) (q := qx) S _ hv_6) km_L_120 rfl hl.1 rfl (Nat.le_of_ble_eq_true rfl) ⟨(Nat.le_of_ble_eq_true rfl), (Nat.le_of_ble_eq_true rfl)⟩ ⟨(by omega : cl + 0 ≤ 600130), (by omega : sl + 0 ≤ 7301080)⟩ dL_law_97 (fun H locs hw => ?_)
      refine W.cs (cells' := cl) (slots' := sl) rfl rfl ?_
      refine lv_istore (lv' := [(6, .int v_6), (5, .int v_5), (0, .ref (b)), (1, .ref (qx 0)), (2, .ref (r 0)), (3, .int x3), (4, .int x4)]) C.1 C.2.1 dL_law_100 hl (by decide) rfl (fun ls hl => ?_)
      refine lv_iconst (v := 0) C.1 C.2.1 dL_law_102 (by decide) ?_
      refine lv_istore (lv' := [(7, .int 0), (6, .int v_6), (5, .int v_5), (0, .ref (b)), (1, .ref (qx 0)), (2, .ref (r 0)), (3, .int x3), (4, .int x4)]) C.1 C.2.1 dL_law_103 hl (by decide) rfl (fun ls hl => ?_)
      refine lv_iconst (v := 0) C.1 C.2.1 dL_law_105 (by decide) ?_
      refine lv_istore (lv' := [(8, .int 0), (7, .int 0), (6, .int v_6), (5, .int v_5), (0, .ref (b)), (1, .ref (qx 0)), (2, .ref (r 0)), (3, .int x3), (4, .int x4)]) C.1 C.2.1 dL_law_106 hl (by decide) rfl (fun ls hl => ?_)
      refine lv_iconst (v := 0) C.1 C.2.1 dL_law_108 (by decide) ?_
      refine lv_istore (lv' := [(9, .int 0), (8, .int 0), (7, .int 0), (6, .int v_6), (5, .int v_5), (0, .ref (b)), (1, .ref (qx 0)), (2, .ref (r 0)), (3, .int x3), (4, .int x4)]) C.1 C.2.1 dL_law_109 hl (by decide) rfl (fun ls hl => ?_)
      exact wL_law_111 C E hX hbl hL x3 x4 v_5 v_6 M SM hM k22 hk22 100 S T 0 0 0 hf cl sl (by omega) _ _ _ hw (lv_sub hl [5, 6, 7, 8, 9, 4, 3, 2, 1, 0] rfl)
    · have hf := iff_ hc hf
      refine lv_aload_n C.1 C.2.1 dL_law_60 rfl (lv_at hl 1 rfl) ?_
      refine lv_aload_n C.1 C.2.1 dL_law_61 rfl (lv_at hl 2 rfl) ?_
      refine lv_iload C.1 C.2.1 dL_law_62 (lv_at hl 4 rfl) ?_
      refine lv_iconst (v := 2) C.1 C.2.1 dL_law_64 (by decide) ?_
      refine lv_iload C.1 C.2.1 dL_law_65 (lv_at hl 5 rfl) ?_
      refine lv_imul C.1 C.2.1 dL_law_67 ?_
      refine lv_ishr C.1 C.2.1 dL_law_68 ?_
      refine lv_sipush (v := 397) C.1 C.2.1 dL_law_69 (by decide) ?_
      refine lv_iload C.1 C.2.1 dL_law_72 (lv_at hl 5 rfl) ?_
      refine lv_imul C.1 C.2.1 dL_law_74 ?_
      refine lv_iadd C.1 C.2.1 dL_law_75 ?_
      obtain ⟨⟨S_7, T_8⟩, hu_9, hf⟩ := bnd hf
      have hf := pr_r hf
      refine l_act (rm := ({ frames := 5, cells := 1, slots := 24, locals := 113 } : Room)) (As := [.ref (qx 0), .ref (r 0), .int ((x4 >>> ((2 * x5) &&& 31)) + (397 * x5))]) (rest := []) C E hw F_L_act (ctL_act l (k := k) (D := D) (qx := qx) (r := r) S T ((x4 >>> ((2 * x5) &&& 31)) + (397 * x5)) hu_9) km_L_109 rfl hl.1 rfl (Nat.le_of_ble_eq_true rfl) ⟨(Nat.le_of_ble_eq_true rfl), (Nat.le_of_ble_eq_true rfl)⟩ ⟨(by omega : cl + 1 ≤ 600130), (by omega : sl + 24 ≤ 7301080)⟩ dL_law_76 (fun H locs hw => ?_)
      refine W.cs (cells' := (cl + 1)) (slots' := (sl + 24)) rfl rfl ?_
      refine lv_if_ne (tgt := 84) C.1 C.2.1 dL_law_79 (by decide) (fun hc => ?_) (fun hc => absurd hc (by decide))
      obtain ⟨x5_10, hx5_10, hf⟩ := bnd hf
      refine lv_iinc (v := x5_10) (lv' := [(5, .int x5_10), (0, .ref (b)), (1, .ref (qx 0)), (2, .ref (r 0)), (3, .int x3), (4, .int x4)]) C.1 C.2.1 dL_law_84 hl (k := 5) rfl (inc1 hx5_10) (by decide) rfl (fun ls hl => ?_)
      refine lv_goto (tgt := 54) C.1 C.2.1 dL_law_87 (by decide) ?_
      exact ih S_7 T_8 x5_10 hf (cl + 1) (sl + 24) (by omega) _ _ _ hw (lv_sub hl [1, 2, 3, 4, 5, 0] rfl)
def fL_law_22 (L : Nat) (xs : Nat → Int32) : Nat → St → St → Int32 → Option Unit
  | 0, _, _, _ => none
  | n + 1, S, T, x3 =>
    if 12 ≤ x3 then
      Option.bind (fX4_isSame S T) fun z_1 =>
      some ()
    else
      Option.bind (rmd x3 16) fun v_2 =>
      Option.bind (fL_cell L xs v_2) fun v_3 =>
      Option.bind (some (((v_3 >>> (((x3 / 16) * 3) &&& 31)) + (509 * x3)))) fun x4_4 =>
      fL_law_54 L xs x3 x4_4 (fL_law_22 L xs n) 100 S T 0
set_option maxHeartbeats 4000000 in
set_option maxRecDepth 100000 in
theorem wL_law_22 {p : Program} {l : Launch} {e : Env} {s : State} {m : MethodId} {below : List Frame} {meth : Method} {c : Code} {b L : Nat} {xs : Nat → Int32} {D : va_G} {k : Nat → ClassId} {qx r : Nat → Nat} (C : Ctx p s m #[Value.ref b] meth c cL_law 17 RL ret) (E : gEL D k s) (hX : va_X b L xs s s.heap) (hbl : b < s.heap.size) (hL : L ≤ 260) {r1 : Unit} : ∀ (n : Nat) (S : St) (T : St) (x3 : Int32), fL_law_22 L xs n S T x3 = some r1 → ∀ (cl sl : Nat), cl + 200 * n ≤ 30000 ∧ sl + 4800 * n ≤ 720000 → ∀ (H : Heap) (locs : List Loc) (ls : Array Slot), gS D [] k qx r S T [] s H locs → lv_has ls 17 [(0, .ref (b)), (1, .ref (qx 0)), (2, .ref (r 0)), (3, .int x3)] → W p l e room_1 s m #[Value.ref b] below meth c H locs cl sl (lw_Z below #[Value.ref b] s) (F0 m 22 ls []) := by
  intro n
  induction n with
  | zero => intro S T x3 hf; rw [fL_law_22] at hf; cases hf
  | succ n ih =>
    intro S T x3 hf cl sl hcl H locs ls hw hl
    rw [fL_law_22] at hf
    refine lv_iload_n C.1 C.2.1 dL_law_22 rfl (lv_at hl 3 rfl) ?_
    refine lv_bipush (v := 12) C.1 C.2.1 dL_law_23 (by decide) ?_
    refine lv_icmp_ge (tgt := 881) C.1 C.2.1 dL_law_25 (by decide) (fun hc => ?_) (fun hc => ?_)
    · have hf := ift hc hf
      refine lv_aload_n C.1 C.2.1 dL_law_881 rfl (lv_at hl 2 rfl) ?_
      refine lv_aload_n C.1 C.2.1 dL_law_882 rfl (lv_at hl 1 rfl) ?_
      obtain ⟨z_1, hz_1, hf⟩ := bnd hf
      refine l_same (rm := ({ frames := 4, cells := 21, slots := 520, locals := 87 } : Room)) (As := [.ref (qx 0)]) (rest := []) C E hw F_X4_isSame rfl (ctX4_isSame l (k := k) (D := D) (qx := qx) (r := r) S T hz_1) km_L_183 rfl hl.1 rfl (Nat.le_of_ble_eq_true rfl) ⟨(Nat.le_of_ble_eq_true rfl), (Nat.le_of_ble_eq_true rfl)⟩ ⟨(by omega : cl + 21 ≤ 600130), (by omega : sl + 520 ≤ 7301080)⟩ dL_law_883 (fun H locs hw => ?_)
      refine W.cs (cells' := (cl + 21)) (slots' := (sl + 520)) rfl rfl ?_
      exact l_lret C hw (by omega) (by omega)
    · have hf := iff_ hc hf
      refine lv_aload_n C.1 C.2.1 dL_law_28 rfl (lv_at hl 0 rfl) ?_
      refine lv_iload_n C.1 C.2.1 dL_law_29 rfl (lv_at hl 3 rfl) ?_
      refine lv_bipush (v := 16) C.1 C.2.1 dL_law_30 (by decide) ?_
      obtain ⟨v_2, hv_2, hf⟩ := bnd hf
      refine l_irem C hv_2 dL_law_32 ?_
      obtain ⟨v_3, hv_3, hf⟩ := bnd hf
      refine l_cell (rm := ({ frames := 0, cells := 0, slots := 0, locals := 0 } : Room)) (As := [.ref (b), .int v_2]) (rest := []) C hw hX hbl (nA0 hbl) F_L_cell (ctL_cell l v_2 hv_3) km_L_105 rfl hl.1 rfl (Nat.le_of_ble_eq_true rfl) ⟨(Nat.le_of_ble_eq_true rfl), (Nat.le_of_ble_eq_true rfl)⟩ ⟨(by omega : cl + 0 ≤ 600130), (by omega : sl + 0 ≤ 7301080)⟩ dL_law_33 (fun H locs hw => ?_)
      refine W.cs (cells' := cl) (slots' := sl) rfl rfl ?_
      refine lv_iload_n C.1 C.2.1 dL_law_36 rfl (lv_at hl 3 rfl) ?_
      refine lv_bipush (v := 16) C.1 C.2.1 dL_law_37 (by decide) ?_
      refine lv_idiv C.1 C.2.1 dL_law_39 (by decide) ?_
      refine lv_iconst (v := 3) C.1 C.2.1 dL_law_40 (by decide) ?_
      refine lv_imul C.1 C.2.1 dL_law_41 ?_
      refine lv_ishr C.1 C.2.1 dL_law_42 ?_
      refine lv_sipush (v := 509) C.1 C.2.1 dL_law_43 (by decide) ?_
      refine lv_iload_n C.1 C.2.1 dL_law_46 rfl (lv_at hl 3 rfl) ?_
      refine lv_imul C.1 C.2.1 dL_law_47 ?_
      refine lv_iadd C.1 C.2.1 dL_law_48 ?_
      obtain ⟨x4_4, hx4_4, hf⟩ := bnd hf
      refine topi_b hx4_4 ?_
      refine lv_istore (lv' := [(4, .int x4_4), (0, .ref (b)), (1, .ref (qx 0)), (2, .ref (r 0)), (3, .int x3)]) C.1 C.2.1 dL_law_49 hl (by decide) rfl (fun ls hl => ?_)
      refine lv_iconst (v := 0) C.1 C.2.1 dL_law_51 (by decide) ?_
      refine lv_istore (lv' := [(5, .int 0), (4, .int x4_4), (0, .ref (b)), (1, .ref (qx 0)), (2, .ref (r 0)), (3, .int x3)]) C.1 C.2.1 dL_law_52 hl (by decide) rfl (fun ls hl => ?_)
      exact wL_law_54 C E hX hbl hL x3 x4_4 (cl + 200) (sl + 4800) (by omega) (fL_law_22 L xs n) (fun S T x3 hf cl2 sl2 hb => ih S T x3 hf cl2 sl2 (by omega)) 100 S T 0 hf cl sl (by omega) _ _ _ hw (lv_sub hl [2, 3, 4, 5, 1, 0] rfl)
def fL_law (L : Nat) (xs : Nat → Int32) : Option Unit :=
  Option.bind (fL_build L xs (fun _ _ => 0)) fun u => pr u fun S T =>
  fL_law_22 L xs 100 S T 0
