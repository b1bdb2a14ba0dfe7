/-! DreamLedgerModel.thrown -/
def fX4_thrown (S : St) : Option Int32 :=
  some (S 10 0)
set_option maxHeartbeats 4000000 in
set_option maxRecDepth 100000 in
theorem ctX4_thrown (l : Launch) {D : va_G} {cI : ClassId} {q : Nat → Nat} (S : St) (sz : Nat) {r1 : Int32} (hf : fX4_thrown S = some r1) : Met l yX4_thrown (Cond.code yX4_thrown cX4_thrown 1 (some .int) :: XALL) ({ frames := 0, cells := 0, slots := 0, locals := 0 } : Room) (va_Pc [.ref (q 0)] (gPre D cI ((mw cI q) S) sz)) (gQi D (mw cI q) S (fun (r : Int32) (u : St) => r = r1 ∧ u = S) sz) 0 0 (va_A ((mw cI q) S) sz) := by
  unfold fX4_thrown at hf
  refine Met.ofW (cc := cX4_thrown) (maxL := 1) (ret := (some .int)) (by decide) rfl ?_
  intro p e s m args below meth c s₁ B hml hv
  obtain ⟨rfl, hg⟩ := hv
  have C : Ctx p s m _ meth c cX4_thrown 1 RX4 (some .int) := Ctx.of B hml rfl
  obtain ⟨E, hw, hsz⟩ := g_start hg
  subst hsz
  have hl := lv_entry ([.ref (q 0)]) (n := 1) (Nat.le_of_ble_eq_true rfl)
  rw [lg_entry_eq]
  generalize (lg_sl ([.ref (q 0)]) ++ List.replicate (1 - (lg_sl ([.ref (q 0)])).length) Slot.unset).toArray = ls at hl ⊢
  have hl : lv_has ls 1 [(0, .ref (q 0))] := hl
  refine lv_aload_n C.1 C.2.1 dX4_thrown_0 rfl (lv_at hl 0 rfl) ?_
  refine g_get C E hw inW4 0 rfl rfl 0 (by decide) kf_X4_40 rfl dX4_thrown_1 ?_
  exact g_iret C hw (Nat.le_of_ble_eq_true rfl) (Nat.le_of_ble_eq_true rfl) ⟨Option.some.inj hf, rfl⟩ dX4_thrown_4
/-! DreamLedgerModel.fail -/
def fX4_fail (S : St) (x1 : Int32) : Option (Int32 × St) :=
  Option.bind (some (up S 10 0 x1)) fun S_1 =>
  some (0, S_1)
set_option maxHeartbeats 4000000 in
set_option maxRecDepth 100000 in
theorem ctX4_fail (l : Launch) {D : va_G} {cI : ClassId} {q : Nat → Nat} (S : St) (x1 : Int32) (sz : Nat) {r1 : Int32} {S1 : St} (hf : fX4_fail S x1 = some (r1, S1)) : Met l yX4_fail (Cond.code yX4_fail cX4_fail 2 (some .int) :: XALL) ({ frames := 0, cells := 0, slots := 0, locals := 0 } : Room) (va_Pc [.ref (q 0), .int x1] (gPre D cI ((mw cI q) S) sz)) (gQi D (mw cI q) S (fun (r : Int32) (u : St) => r = r1 ∧ u = S1) sz) 0 0 (va_A ((mw cI q) S) sz) := by
  unfold fX4_fail at hf
  refine Met.ofW (cc := cX4_fail) (maxL := 2) (ret := (some .int)) (by decide) rfl ?_
  intro p e s m args below meth c s₁ B hml hv
  obtain ⟨rfl, hg⟩ := hv
  have C : Ctx p s m _ meth c cX4_fail 2 RX4 (some .int) := Ctx.of B hml rfl
  obtain ⟨E, hw, hsz⟩ := g_start hg
  subst hsz
  have hl := lv_entry ([.ref (q 0), .int x1]) (n := 2) (Nat.le_of_ble_eq_true rfl)
  rw [lg_entry_eq]
  generalize (lg_sl ([.ref (q 0), .int x1]) ++ List.replicate (2 - (lg_sl ([.ref (q 0), .int x1])).length) Slot.unset).toArray = ls at hl ⊢
  have hl : lv_has ls 2 [(0, .ref (q 0)), (1, .int x1)] := hl
  refine lv_aload_n C.1 C.2.1 dX4_fail_0 rfl (lv_at hl 0 rfl) ?_
  refine lv_iload_n C.1 C.2.1 dX4_fail_1 rfl (lv_at hl 1 rfl) ?_
  obtain ⟨S_1, hS_1, hf⟩ := bnd hf
  refine g_put C E hw inW4 tyX4 tyX4_ok nmX4 0 rfl rfl 0 (by decide) kf_X4_40 rfl (by decide +kernel) (Nat.le_of_ble_eq_true rfl) (ws' := (mw cI q) S_1) (by rw [← Option.some.inj hS_1]; rfl) dX4_fail_2 (fun H locs hw => ?_)
  refine lv_iconst (v := 0) C.1 C.2.1 dX4_fail_5 (by decide) ?_
  exact g_iret C hw (Nat.le_of_ble_eq_true rfl) (Nat.le_of_ble_eq_true rfl) ⟨congrArg Prod.fst (Option.some.inj hf), congrArg Prod.snd (Option.some.inj hf)⟩ dX4_fail_6
/-! DreamLedgerModel.failed -/
def fX4_failed (S : St) (x1 : Int32) : Option (Int32 × St) :=
  Option.bind (some (up S 10 0 x1)) fun S_1 =>
  some (0, S_1)
set_option maxHeartbeats 4000000 in
set_option maxRecDepth 100000 in
theorem ctX4_failed (l : Launch) {D : va_G} {cI : ClassId} {q : Nat → Nat} (S : St) (x1 : Int32) (sz : Nat) {r1 : Int32} {S1 : St} (hf : fX4_failed S x1 = some (r1, S1)) : Met l yX4_failed (Cond.code yX4_failed cX4_failed 2 (some .boolean) :: XALL) ({ frames := 0, cells := 0, slots := 0, locals := 0 } : Room) (va_Pc [.ref (q 0), .int x1] (gPre D cI ((mw cI q) S) sz)) (gQi D (mw cI q) S (fun (r : Int32) (u : St) => r = r1 ∧ u = S1) sz) 0 0 (va_A ((mw cI q) S) sz) := by
  unfold fX4_failed at hf
  refine Met.ofW (cc := cX4_failed) (maxL := 2) (ret := (some .boolean)) (by decide) rfl ?_
  intro p e s m args below meth c s₁ B hml hv
  obtain ⟨rfl, hg⟩ := hv
  have C : Ctx p s m _ meth c cX4_failed 2 RX4 (some .boolean) := Ctx.of B hml rfl
  obtain ⟨E, hw, hsz⟩ := g_start hg
  subst hsz
  have hl := lv_entry ([.ref (q 0), .int x1]) (n := 2) (Nat.le_of_ble_eq_true rfl)
  rw [lg_entry_eq]
  generalize (lg_sl ([.ref (q 0), .int x1]) ++ List.replicate (2 - (lg_sl ([.ref (q 0), .int x1])).length) Slot.unset).toArray = ls at hl ⊢
  have hl : lv_has ls 2 [(0, .ref (q 0)), (1, .int x1)] := hl
  refine lv_aload_n C.1 C.2.1 dX4_failed_0 rfl (lv_at hl 0 rfl) ?_
  refine lv_iload_n C.1 C.2.1 dX4_failed_1 rfl (lv_at hl 1 rfl) ?_
  obtain ⟨S_1, hS_1, hf⟩ := bnd hf
  refine g_put C E hw inW4 tyX4 tyX4_ok nmX4 0 rfl rfl 0 (by decide) kf_X4_40 rfl (by decide +kernel) (Nat.le_of_ble_eq_true rfl) (ws' := (mw cI q) S_1) (by rw [← Option.some.inj hS_1]; rfl) dX4_failed_2 (fun H locs hw => ?_)
  refine lv_iconst (v := 0) C.1 C.2.1 dX4_failed_5 (by decide) ?_
  exact g_zret C hw (Nat.le_of_ble_eq_true rfl) (Nat.le_of_ble_eq_true rfl) (Or.inl rfl) ⟨congrArg Prod.fst (Option.some.inj hf), congrArg Prod.snd (Option.some.inj hf)⟩ dX4_failed_6
/-! DreamLedgerModel.isIn -/
def fX4_isIn (x0 : Int32) (x1 : Int32) (x2 : Int32) : Option Int32 :=
  if x0 < x1 then
    some 0
  else
    if x2 < x0 then
      some 0
    else
      some 1
set_option maxHeartbeats 4000000 in
set_option maxRecDepth 100000 in
theorem ctX4_isIn (l : Launch) (x0 : Int32) (x1 : Int32) (x2 : Int32) {r1 : Int32} (hf : fX4_isIn x0 x1 x2 = some r1) : Met l yX4_isIn (Cond.code yX4_isIn cX4_isIn 3 (some .boolean) :: XALL) ({ frames := 0, cells := 0, slots := 0, locals := 0 } : Room) (va_Pc [.int x0, .int x1, .int x2] (fun _ => True)) (zQi r1) 0 0 (fun _ => False) := by
  unfold fX4_isIn at hf
  refine Met.ofW (cc := cX4_isIn) (maxL := 3) (ret := (some .boolean)) (by decide) rfl ?_
  intro p e s m args below meth c s₁ B hml hv
  obtain ⟨rfl, hg⟩ := hv
  have C : Ctx p s m _ meth c cX4_isIn 3 RX4 (some .boolean) := Ctx.of B hml rfl
  have hw : zS s s.heap [] := va_S.rf
  have hl := lv_entry ([.int x0, .int x1, .int x2]) (n := 3) (Nat.le_of_ble_eq_true rfl)
  rw [lg_entry_eq]
  generalize (lg_sl ([.int x0, .int x1, .int x2]) ++ List.replicate (3 - (lg_sl ([.int x0, .int x1, .int x2])).length) Slot.unset).toArray = ls at hl ⊢
  have hl : lv_has ls 3 [(0, .int x0), (1, .int x1), (2, .int x2)] := hl
  refine lv_iload_n C.1 C.2.1 dX4_isIn_0 rfl (lv_at hl 0 rfl) ?_
  refine lv_iload_n C.1 C.2.1 dX4_isIn_1 rfl (lv_at hl 1 rfl) ?_
  refine lv_icmp_lt (tgt := 14) C.1 C.2.1 dX4_isIn_2 (by decide) (fun hc => ?_) (fun hc => ?_)
  · have hf := ift hc hf
    refine lv_iconst (v := 0) C.1 C.2.1 dX4_isIn_14 (by decide) ?_
    exact z_zret C hw (Nat.le_of_ble_eq_true rfl) (Nat.le_of_ble_eq_true rfl) (Or.inl rfl) (Option.some.inj hf) dX4_isIn_15
  · have hf := iff_ hc hf
    refine lv_iload_n C.1 C.2.1 dX4_isIn_5 rfl (lv_at hl 0 rfl) ?_
    refine lv_iload_n C.1 C.2.1 dX4_isIn_6 rfl (lv_at hl 2 rfl) ?_
    refine lv_icmp_gt (tgt := 14) C.1 C.2.1 dX4_isIn_7 (by decide) (fun hc => ?_) (fun hc => ?_)
    · have hf := ift hc hf
      refine lv_iconst (v := 0) C.1 C.2.1 dX4_isIn_14 (by decide) ?_
      exact z_zret C hw (Nat.le_of_ble_eq_true rfl) (Nat.le_of_ble_eq_true rfl) (Or.inl rfl) (Option.some.inj hf) dX4_isIn_15
    · have hf := iff_ hc hf
      refine lv_iconst (v := 1) C.1 C.2.1 dX4_isIn_10 (by decide) ?_
      refine lv_goto (tgt := 15) C.1 C.2.1 dX4_isIn_11 (by decide) ?_
      exact z_zret C hw (Nat.le_of_ble_eq_true rfl) (Nat.le_of_ble_eq_true rfl) (Or.inr rfl) (Option.some.inj hf) dX4_isIn_15
/-! DreamLedgerModel.isTag -/
def fX4_isTag (S : St) (x1 : Int32) : Option Int32 :=
  Option.bind (fX4_isIn x1 0 ((S 11 0) - 1)) fun v_1 =>
  Option.bind (zg v_1) fun v_2 =>
  some v_2
set_option maxHeartbeats 4000000 in
set_option maxRecDepth 100000 in
theorem ctX4_isTag (l : Launch) {D : va_G} {cI : ClassId} {q : Nat → Nat} (S : St) (x1 : Int32) (sz : Nat) {r1 : Int32} (hf : fX4_isTag S x1 = some r1) : Met l yX4_isTag (Cond.code yX4_isTag cX4_isTag 2 (some .boolean) :: XALL) ({ frames := 1, cells := 0, slots := 0, locals := 22 } : Room) (va_Pc [.ref (q 0), .int x1] (gPre D cI ((mw cI q) S) sz)) (gQi D (mw cI q) S (fun (r : Int32) (u : St) => r = r1 ∧ u = S) sz) 0 0 (va_A ((mw cI q) S) sz) := by
  unfold fX4_isTag at hf
  refine Met.ofW (cc := cX4_isTag) (maxL := 2) (ret := (some .boolean)) (by decide) rfl ?_
  intro p e s m args below meth c s₁ B hml hv
  obtain ⟨rfl, hg⟩ := hv
  have C : Ctx p s m _ meth c cX4_isTag 2 RX4 (some .boolean) := Ctx.of B hml rfl
  obtain ⟨E, hw, hsz⟩ := g_start hg
  subst hsz
  have hl := lv_entry ([.ref (q 0), .int x1]) (n := 2) (Nat.le_of_ble_eq_true rfl)
  rw [lg_entry_eq]
  generalize (lg_sl ([.ref (q 0), .int x1]) ++ List.replicate (2 - (lg_sl ([.ref (q 0), .int x1])).length) Slot.unset).toArray = ls at hl ⊢
  have hl : lv_has ls 2 [(0, .ref (q 0)), (1, .int x1)] := hl
  refine lv_iload_n C.1 C.2.1 dX4_isTag_0 rfl (lv_at hl 1 rfl) ?_
  refine lv_iconst (v := 0) C.1 C.2.1 dX4_isTag_1 (by decide) ?_
  refine lv_aload_n C.1 C.2.1 dX4_isTag_2 rfl (lv_at hl 0 rfl) ?_
  refine g_get C E hw inW4 0 rfl rfl 1 (by decide) kf_X4_44 rfl dX4_isTag_3 ?_
  refine lv_iconst (v := 1) C.1 C.2.1 dX4_isTag_6 (by decide) ?_
  refine lv_isub C.1 C.2.1 dX4_isTag_7 ?_
  obtain ⟨v_1, hv_1, hf⟩ := bnd hf
  refine g_ci0e (rest := []) hw (g_run0 (rm := ({ frames := 0, cells := 0, slots := 0, locals := 0 } : Room)) (As := [.int x1, .int 0, .int ((S 11 0) - 1)]) (rest := []) C F_X4_isIn (ctX4_isIn l x1 0 ((S 11 0) - 1) hv_1) km_X4_47 rfl hl.1 rfl (Nat.le_of_ble_eq_true rfl) ⟨(Nat.le_of_ble_eq_true rfl), (Nat.le_of_ble_eq_true rfl)⟩ ⟨(Nat.le_of_ble_eq_true rfl), (Nat.le_of_ble_eq_true rfl)⟩ dX4_isTag_8) (fun H locs hw => ?_)
  obtain ⟨v_2, hv_2, hf⟩ := bnd hf
  rw [(zg_some hv_2).1]
  exact g_zret C hw (Nat.le_of_ble_eq_true rfl) (Nat.le_of_ble_eq_true rfl) (zg_some hv_2).2 ⟨Option.some.inj hf, rfl⟩ dX4_isTag_11
/-! DreamLedgerModel.isDream -/
def fX4_isDream (S : St) (x1 : Int32) : Option Int32 :=
  Option.bind (fX4_isIn x1 0 ((S 12 0) - 1)) fun v_1 =>
  Option.bind (zg v_1) fun v_2 =>
  some v_2
set_option maxHeartbeats 4000000 in
set_option maxRecDepth 100000 in
theorem ctX4_isDream (l : Launch) {D : va_G} {cI : ClassId} {q : Nat → Nat} (S : St) (x1 : Int32) (sz : Nat) {r1 : Int32} (hf : fX4_isDream S x1 = some r1) : Met l yX4_isDream (Cond.code yX4_isDream cX4_isDream 2 (some .boolean) :: XALL) ({ frames := 1, cells := 0, slots := 0, locals := 22 } : Room) (va_Pc [.ref (q 0), .int x1] (gPre D cI ((mw cI q) S) sz)) (gQi D (mw cI q) S (fun (r : Int32) (u : St) => r = r1 ∧ u = S) sz) 0 0 (va_A ((mw cI q) S) sz) := by
  unfold fX4_isDream at hf
  refine Met.ofW (cc := cX4_isDream) (maxL := 2) (ret := (some .boolean)) (by decide) rfl ?_
  intro p e s m args below meth c s₁ B hml hv
  obtain ⟨rfl, hg⟩ := hv
  have C : Ctx p s m _ meth c cX4_isDream 2 RX4 (some .boolean) := Ctx.of B hml rfl
  obtain ⟨E, hw, hsz⟩ := g_start hg
  subst hsz
  have hl := lv_entry ([.ref (q 0), .int x1]) (n := 2) (Nat.le_of_ble_eq_true rfl)
  rw [lg_entry_eq]
  generalize (lg_sl ([.ref (q 0), .int x1]) ++ List.replicate (2 - (lg_sl ([.ref (q 0), .int x1])).length) Slot.unset).toArray = ls at hl ⊢
  have hl : lv_has ls 2 [(0, .ref (q 0)), (1, .int x1)] := hl
  refine lv_iload_n C.1 C.2.1 dX4_isDream_0 rfl (lv_at hl 1 rfl) ?_
  refine lv_iconst (v := 0) C.1 C.2.1 dX4_isDream_1 (by decide) ?_
  refine lv_aload_n C.1 C.2.1 dX4_isDream_2 rfl (lv_at hl 0 rfl) ?_
  refine g_get C E hw inW4 0 rfl rfl 2 (by decide) kf_X4_51 rfl dX4_isDream_3 ?_
  refine lv_iconst (v := 1) C.1 C.2.1 dX4_isDream_6 (by decide) ?_
  refine lv_isub C.1 C.2.1 dX4_isDream_7 ?_
  obtain ⟨v_1, hv_1, hf⟩ := bnd hf
  refine g_ci0e (rest := []) hw (g_run0 (rm := ({ frames := 0, cells := 0, slots := 0, locals := 0 } : Room)) (As := [.int x1, .int 0, .int ((S 12 0) - 1)]) (rest := []) C F_X4_isIn (ctX4_isIn l x1 0 ((S 12 0) - 1) hv_1) km_X4_47 rfl hl.1 rfl (Nat.le_of_ble_eq_true rfl) ⟨(Nat.le_of_ble_eq_true rfl), (Nat.le_of_ble_eq_true rfl)⟩ ⟨(Nat.le_of_ble_eq_true rfl), (Nat.le_of_ble_eq_true rfl)⟩ dX4_isDream_8) (fun H locs hw => ?_)
  obtain ⟨v_2, hv_2, hf⟩ := bnd hf
  rw [(zg_some hv_2).1]
  exact g_zret C hw (Nat.le_of_ble_eq_true rfl) (Nat.le_of_ble_eq_true rfl) (zg_some hv_2).2 ⟨Option.some.inj hf, rfl⟩ dX4_isDream_11
/-! DreamLedgerModel.isTerm -/
def fX4_isTerm (S : St) (x1 : Int32) : Option Int32 :=
  Option.bind (fX4_isIn x1 0 ((S 13 0) - 1)) fun v_1 =>
  Option.bind (zg v_1) fun v_2 =>
  some v_2
set_option maxHeartbeats 4000000 in
set_option maxRecDepth 100000 in
theorem ctX4_isTerm (l : Launch) {D : va_G} {cI : ClassId} {q : Nat → Nat} (S : St) (x1 : Int32) (sz : Nat) {r1 : Int32} (hf : fX4_isTerm S x1 = some r1) : Met l yX4_isTerm (Cond.code yX4_isTerm cX4_isTerm 2 (some .boolean) :: XALL) ({ frames := 1, cells := 0, slots := 0, locals := 22 } : Room) (va_Pc [.ref (q 0), .int x1] (gPre D cI ((mw cI q) S) sz)) (gQi D (mw cI q) S (fun (r : Int32) (u : St) => r = r1 ∧ u = S) sz) 0 0 (va_A ((mw cI q) S) sz) := by
  unfold fX4_isTerm at hf
  refine Met.ofW (cc := cX4_isTerm) (maxL := 2) (ret := (some .boolean)) (by decide) rfl ?_
  intro p e s m args below meth c s₁ B hml hv
  obtain ⟨rfl, hg⟩ := hv
  have C : Ctx p s m _ meth c cX4_isTerm 2 RX4 (some .boolean) := Ctx.of B hml rfl
  obtain ⟨E, hw, hsz⟩ := g_start hg
  subst hsz
  have hl := lv_entry ([.ref (q 0), .int x1]) (n := 2) (Nat.le_of_ble_eq_true rfl)
  rw [lg_entry_eq]
  generalize (lg_sl ([.ref (q 0), .int x1]) ++ List.replicate (2 - (lg_sl ([.ref (q 0), .int x1])).length) Slot.unset).toArray = ls at hl ⊢
  have hl : lv_has ls 2 [(0, .ref (q 0)), (1, .int x1)] := hl
  refine lv_iload_n C.1 C.2.1 dX4_isTerm_0 rfl (lv_at hl 1 rfl) ?_
  refine lv_iconst (v := 0) C.1 C.2.1 dX4_isTerm_1 (by decide) ?_
  refine lv_aload_n C.1 C.2.1 dX4_isTerm_2 rfl (lv_at hl 0 rfl) ?_
  refine g_get C E hw inW4 0 rfl rfl 3 (by decide) kf_X4_54 rfl dX4_isTerm_3 ?_
  refine lv_iconst (v := 1) C.1 C.2.1 dX4_isTerm_6 (by decide) ?_
  refine lv_isub C.1 C.2.1 dX4_isTerm_7 ?_
  obtain ⟨v_1, hv_1, hf⟩ := bnd hf
  refine g_ci0e (rest := []) hw (g_run0 (rm := ({ frames := 0, cells := 0, slots := 0, locals := 0 } : Room)) (As := [.int x1, .int 0, .int ((S 13 0) - 1)]) (rest := []) C F_X4_isIn (ctX4_isIn l x1 0 ((S 13 0) - 1) hv_1) km_X4_47 rfl hl.1 rfl (Nat.le_of_ble_eq_true rfl) ⟨(Nat.le_of_ble_eq_true rfl), (Nat.le_of_ble_eq_true rfl)⟩ ⟨(Nat.le_of_ble_eq_true rfl), (Nat.le_of_ble_eq_true rfl)⟩ dX4_isTerm_8) (fun H locs hw => ?_)
  obtain ⟨v_2, hv_2, hf⟩ := bnd hf
  rw [(zg_some hv_2).1]
  exact g_zret C hw (Nat.le_of_ble_eq_true rfl) (Nat.le_of_ble_eq_true rfl) (zg_some hv_2).2 ⟨Option.some.inj hf, rfl⟩ dX4_isTerm_11
/-! DreamLedgerModel.is -/
def fX4_is (x0 : Int32) (x1 : Int32) : Option Int32 :=
  if ((x0 >>> (x1 &&& 31)) &&& 1) = 1 then
    some 1
  else
    some 0
set_option maxHeartbeats 4000000 in
set_option maxRecDepth 100000 in
theorem ctX4_is (l : Launch) (x0 : Int32) (x1 : Int32) {r1 : Int32} (hf : fX4_is x0 x1 = some r1) : Met l yX4_is (Cond.code yX4_is cX4_is 2 (some .boolean) :: XALL) ({ frames := 0, cells := 0, slots := 0, locals := 0 } : Room) (va_Pc [.int x0, .int x1] (fun _ => True)) (zQi r1) 0 0 (fun _ => False) := by
  unfold fX4_is at hf
  refine Met.ofW (cc := cX4_is) (maxL := 2) (ret := (some .boolean)) (by decide) rfl ?_
  intro p e s m args below meth c s₁ B hml hv
  obtain ⟨rfl, hg⟩ := hv
  have C : Ctx p s m _ meth c cX4_is 2 RX4 (some .boolean) := Ctx.of B hml rfl
  have hw : zS s s.heap [] := va_S.rf
  have hl := lv_entry ([.int x0, .int x1]) (n := 2) (Nat.le_of_ble_eq_true rfl)
  rw [lg_entry_eq]
  generalize (lg_sl ([.int x0, .int x1]) ++ List.replicate (2 - (lg_sl ([.int x0, .int x1])).length) Slot.unset).toArray = ls at hl ⊢
  have hl : lv_has ls 2 [(0, .int x0), (1, .int x1)] := hl
  refine lv_iload_n C.1 C.2.1 dX4_is_0 rfl (lv_at hl 0 rfl) ?_
  refine lv_iload_n C.1 C.2.1 dX4_is_1 rfl (lv_at hl 1 rfl) ?_
  refine lv_ishr C.1 C.2.1 dX4_is_2 ?_
  refine lv_iconst (v := 1) C.1 C.2.1 dX4_is_3 (by decide) ?_
  refine lv_iand C.1 C.2.1 dX4_is_4 ?_
  refine lv_iconst (v := 1) C.1 C.2.1 dX4_is_5 (by decide) ?_
  refine lv_icmp_ne (tgt := 13) C.1 C.2.1 dX4_is_6 (by decide) (fun hc => ?_) (fun hc => ?_)
  · have hf := iff_ hc hf
    refine lv_iconst (v := 0) C.1 C.2.1 dX4_is_13 (by decide) ?_
    exact z_zret C hw (Nat.le_of_ble_eq_true rfl) (Nat.le_of_ble_eq_true rfl) (Or.inl rfl) (Option.some.inj hf) dX4_is_14
  · have hf := ift hc hf
    refine lv_iconst (v := 1) C.1 C.2.1 dX4_is_9 (by decide) ?_
    refine lv_goto (tgt := 14) C.1 C.2.1 dX4_is_10 (by decide) ?_
    exact z_zret C hw (Nat.le_of_ble_eq_true rfl) (Nat.le_of_ble_eq_true rfl) (Or.inr rfl) (Option.some.inj hf) dX4_is_14
/-! DreamLedgerModel.many -/
def fX4_many_4 : Nat → Int32 → Int32 → Option Int32
  | 0, _, _ => none
  | n + 1, x1, x2 =>
    if x2 = 0 then
      some x1
    else
      Option.bind (some (x1 + 1)) fun x1_1 =>
      Option.bind (some ((x2 &&& (x2 - 1)))) fun x2_2 =>
      fX4_many_4 n x1_1 x2_2
set_option maxHeartbeats 4000000 in
set_option maxRecDepth 100000 in
theorem wX4_many_4 {p : Program} {l : Launch} {e : Env} {s : State} {m : MethodId} {args : Array Value} {below : List Frame} {meth : Method} {c : Code} (C : Ctx p s m args meth c cX4_many 3 RX4 (some .int)) {r1 : Int32} : ∀ (n : Nat) (x1 : Int32) (x2 : Int32), fX4_many_4 n x1 x2 = some r1 → ∀ (H : Heap) (locs : List Loc) (ls : Array Slot), zS s H locs → lv_has ls 3 [(1, .int x1), (2, .int x2)] → W p l e ({ frames := 0, cells := 0, slots := 0, locals := 0 } : Room) s m args below meth c H locs 0 0 (MQ below (zQi r1) args s 0 0 (fun _ => False)) (F0 m 4 ls []) := by
  intro n
  induction n with
  | zero => intro x1 x2 hf; rw [fX4_many_4] at hf; cases hf
  | succ n ih =>
    intro x1 x2 hf H locs ls hw hl
    rw [fX4_many_4] at hf
    refine lv_iload_n C.1 C.2.1 dX4_many_4 rfl (lv_at hl 1 rfl) ?_
    refine lv_if_eq (tgt := 20) C.1 C.2.1 dX4_many_5 (by decide) (fun hc => ?_) (fun hc => ?_)
    · have hf := ift hc hf
      refine lv_iload_n C.1 C.2.1 dX4_many_20 rfl (lv_at hl 0 rfl) ?_
      exact z_iret C hw (Nat.le_of_ble_eq_true rfl) (Nat.le_of_ble_eq_true rfl) (Option.some.inj hf) dX4_many_21
    · have hf := iff_ hc hf
      obtain ⟨x1_1, hx1_1, hf⟩ := bnd hf
      refine lv_iinc (v := x1_1) (lv' := [(1, .int x1_1), (2, .int x2)]) C.1 C.2.1 dX4_many_8 hl (k := 0) rfl (inc1 hx1_1) (by decide) rfl (fun ls hl => ?_)
      refine lv_iload_n C.1 C.2.1 dX4_many_11 rfl (lv_at hl 1 rfl) ?_
      refine lv_iload_n C.1 C.2.1 dX4_many_12 rfl (lv_at hl 1 rfl) ?_
      refine lv_iconst (v := 1) C.1 C.2.1 dX4_many_13 (by decide) ?_
      refine lv_isub C.1 C.2.1 dX4_many_14 ?_
      refine lv_iand C.1 C.2.1 dX4_many_15 ?_
      obtain ⟨x2_2, hx2_2, hf⟩ := bnd hf
      refine topi_b hx2_2 ?_
      refine lv_istore_n (lv' := [(2, .int x2_2), (1, .int x1_1)]) C.1 C.2.1 dX4_many_16 rfl hl (by decide) rfl (fun ls hl => ?_)
      refine lv_goto (tgt := 4) C.1 C.2.1 dX4_many_17 (by decide) ?_
      exact ih x1_1 x2_2 hf _ _ _ hw (lv_sub hl [1, 0] rfl)
def fX4_many (x0 : Int32) : Option Int32 :=
  fX4_many_4 100 0 x0
set_option maxHeartbeats 4000000 in
set_option maxRecDepth 100000 in
theorem ctX4_many (l : Launch) (x0 : Int32) {r1 : Int32} (hf : fX4_many x0 = some r1) : Met l yX4_many (Cond.code yX4_many cX4_many 3 (some .int) :: XALL) ({ frames := 0, cells := 0, slots := 0, locals := 0 } : Room) (va_Pc [.int x0] (fun _ => True)) (zQi r1) 0 0 (fun _ => False) := by
  unfold fX4_many at hf
  refine Met.ofW (cc := cX4_many) (maxL := 3) (ret := (some .int)) (by decide) rfl ?_
  intro p e s m args below meth c s₁ B hml hv
  obtain ⟨rfl, hg⟩ := hv
  have C : Ctx p s m _ meth c cX4_many 3 RX4 (some .int) := Ctx.of B hml rfl
  have hw : zS s s.heap [] := va_S.rf
  have hl := lv_entry ([.int x0]) (n := 3) (Nat.le_of_ble_eq_true rfl)
  rw [lg_entry_eq]
  generalize (lg_sl ([.int x0]) ++ List.replicate (3 - (lg_sl ([.int x0])).length) Slot.unset).toArray = ls at hl ⊢
  have hl : lv_has ls 3 [(0, .int x0)] := hl
  refine lv_iconst (v := 0) C.1 C.2.1 dX4_many_0 (by decide) ?_
  refine lv_istore_n (lv' := [(1, .int 0), (0, .int x0)]) C.1 C.2.1 dX4_many_1 rfl hl (by decide) rfl (fun ls hl => ?_)
  refine lv_iload_n C.1 C.2.1 dX4_many_2 rfl (lv_at hl 1 rfl) ?_
  refine lv_istore_n (lv' := [(2, .int x0), (1, .int 0), (0, .int x0)]) C.1 C.2.1 dX4_many_3 rfl hl (by decide) rfl (fun ls hl => ?_)
  exact wX4_many_4 C 100 0 x0 hf _ _ _ hw (lv_sub hl [1, 0] rfl)
/-! DreamLedgerModel.above -/
def fX4_above_9 (S : St) : Nat → Int32 → Int32 → Option Int32
  | 0, _, _ => none
  | n + 1, x2, x3 =>
    if x3 = (-1) then
      some x2
    else
      Option.bind (some ((x2 ||| ((1 : Int32) <<< (x3 &&& 31))))) fun x2_2 =>
      Option.bind (ld S 0 16 x3) fun v_3 =>
      fX4_above_9 S n x2_2 v_3
set_option maxHeartbeats 4000000 in
set_option maxRecDepth 100000 in
theorem wX4_above_9 {p : Program} {l : Launch} {e : Env} {s : State} {m : MethodId} {args : Array Value} {below : List Frame} {meth : Method} {c : Code} {D : va_G} {cI : ClassId} {q : Nat → Nat} (C : Ctx p s m args meth c cX4_above 4 RX4 (some .int)) (E : gE D cI s) {r1 : Int32} (S : St) : ∀ (n : Nat) (x2 : Int32) (x3 : Int32), fX4_above_9 S n x2 x3 = some r1 → ∀ (H : Heap) (locs : List Loc) (ls : Array Slot), gW D ((mw cI q) S) ((mw cI q) S) s H locs → lv_has ls 4 [(0, .ref (q 0)), (2, .int x2), (3, .int x3)] → W p l e ({ frames := 0, cells := 0, slots := 0, locals := 0 } : Room) s m args below meth c H locs 0 0 (MQ below (gQi D (mw cI q) S (fun (r : Int32) (u : St) => r = r1 ∧ u = S) s.heap.size) args s 0 0 (va_A ((mw cI q) S) s.heap.size)) (F0 m 9 ls []) := by
  intro n
  induction n with
  | zero => intro x2 x3 hf; rw [fX4_above_9] at hf; cases hf
  | succ n ih =>
    intro x2 x3 hf H locs ls hw hl
    rw [fX4_above_9] at hf
    refine lv_iload_n C.1 C.2.1 dX4_above_9 rfl (lv_at hl 2 rfl) ?_
    refine lv_iconst (v := (-1)) C.1 C.2.1 dX4_above_10 (by decide) ?_
    refine lv_icmp_eq (tgt := 30) C.1 C.2.1 dX4_above_11 (by decide) (fun hc => ?_) (fun hc => ?_)
    · have hf := ift hc hf
      refine lv_iload_n C.1 C.2.1 dX4_above_30 rfl (lv_at hl 1 rfl) ?_
      exact g_iret C hw (Nat.le_of_ble_eq_true rfl) (Nat.le_of_ble_eq_true rfl) ⟨Option.some.inj hf, rfl⟩ dX4_above_31
    · have hf := iff_ hc hf
      refine lv_iload_n C.1 C.2.1 dX4_above_14 rfl (lv_at hl 1 rfl) ?_
      refine lv_iconst (v := 1) C.1 C.2.1 dX4_above_15 (by decide) ?_
      refine lv_iload_n C.1 C.2.1 dX4_above_16 rfl (lv_at hl 2 rfl) ?_
      refine lv_ishl C.1 C.2.1 dX4_above_17 ?_
      refine lv_ior C.1 C.2.1 dX4_above_18 ?_
      obtain ⟨x2_2, hx2_2, hf⟩ := bnd hf
      refine topi_b hx2_2 ?_
      refine lv_istore_n (lv' := [(2, .int x2_2), (0, .ref (q 0)), (3, .int x3)]) C.1 C.2.1 dX4_above_19 rfl hl (by decide) rfl (fun ls hl => ?_)
      refine lv_aload_n C.1 C.2.1 dX4_above_20 rfl (lv_at hl 1 rfl) ?_
      refine g_get C E hw inW4 0 rfl rfl 5 (by decide) kf_X4_9 rfl dX4_above_21 ?_
      refine lv_iload_n C.1 C.2.1 dX4_above_24 rfl (lv_at hl 2 rfl) ?_
      obtain ⟨v_3, hv_3, hf⟩ := bnd hf
      refine g_ald C E hw 1 rfl (ld_some hv_3) dX4_above_25 ?_
      refine lv_istore_n (lv' := [(3, .int v_3), (2, .int x2_2), (0, .ref (q 0))]) C.1 C.2.1 dX4_above_26 rfl hl (by decide) rfl (fun ls hl => ?_)
      refine lv_goto (tgt := 9) C.1 C.2.1 dX4_above_27 (by decide) ?_
      exact ih x2_2 v_3 hf _ _ _ hw (lv_sub hl [2, 1, 0] rfl)
def fX4_above (S : St) (x1 : Int32) : Option Int32 :=
  Option.bind (ld S 0 16 x1) fun v_1 =>
  fX4_above_9 S 100 0 v_1
set_option maxHeartbeats 4000000 in
set_option maxRecDepth 100000 in
theorem ctX4_above (l : Launch) {D : va_G} {cI : ClassId} {q : Nat → Nat} (S : St) (x1 : Int32) (sz : Nat) {r1 : Int32} (hf : fX4_above S x1 = some r1) : Met l yX4_above (Cond.code yX4_above cX4_above 4 (some .int) :: XALL) ({ frames := 0, cells := 0, slots := 0, locals := 0 } : Room) (va_Pc [.ref (q 0), .int x1] (gPre D cI ((mw cI q) S) sz)) (gQi D (mw cI q) S (fun (r : Int32) (u : St) => r = r1 ∧ u = S) sz) 0 0 (va_A ((mw cI q) S) sz) := by
  unfold fX4_above at hf
  refine Met.ofW (cc := cX4_above) (maxL := 4) (ret := (some .int)) (by decide) rfl ?_
  intro p e s m args below meth c s₁ B hml hv
  obtain ⟨rfl, hg⟩ := hv
  have C : Ctx p s m _ meth c cX4_above 4 RX4 (some .int) := Ctx.of B hml rfl
  obtain ⟨E, hw, hsz⟩ := g_start hg
  subst hsz
  have hl := lv_entry ([.ref (q 0), .int x1]) (n := 4) (Nat.le_of_ble_eq_true rfl)
  rw [lg_entry_eq]
  generalize (lg_sl ([.ref (q 0), .int x1]) ++ List.replicate (4 - (lg_sl ([.ref (q 0), .int x1])).length) Slot.unset).toArray = ls at hl ⊢
  have hl : lv_has ls 4 [(0, .ref (q 0)), (1, .int x1)] := hl
  refine lv_iconst (v := 0) C.1 C.2.1 dX4_above_0 (by decide) ?_
  refine lv_istore_n (lv' := [(2, .int 0), (0, .ref (q 0)), (1, .int x1)]) C.1 C.2.1 dX4_above_1 rfl hl (by decide) rfl (fun ls hl => ?_)
  refine lv_aload_n C.1 C.2.1 dX4_above_2 rfl (lv_at hl 1 rfl) ?_
  refine g_get C E hw inW4 0 rfl rfl 5 (by decide) kf_X4_9 rfl dX4_above_3 ?_
  refine lv_iload_n C.1 C.2.1 dX4_above_6 rfl (lv_at hl 2 rfl) ?_
  obtain ⟨v_1, hv_1, hf⟩ := bnd hf
  refine g_ald C E hw 1 rfl (ld_some hv_1) dX4_above_7 ?_
  refine lv_istore_n (lv' := [(3, .int v_1), (2, .int 0), (0, .ref (q 0)), (1, .int x1)]) C.1 C.2.1 dX4_above_8 rfl hl (by decide) rfl (fun ls hl => ?_)
  exact wX4_above_9 C E S 100 0 v_1 hf _ _ _ hw (lv_sub hl [2, 1, 0] rfl)
/-! DreamLedgerModel.below -/
def fX4_below (S : St) (x1 : Int32) (x2 : Int32) : Option Int32 :=
  Option.bind (fX4_above S x1) fun v_1 =>
  Option.bind (fX4_is v_1 x2) fun v_2 =>
  Option.bind (zg v_2) fun v_3 =>
  some v_3
set_option maxHeartbeats 4000000 in
set_option maxRecDepth 100000 in
theorem ctX4_below (l : Launch) {D : va_G} {cI : ClassId} {q : Nat → Nat} (S : St) (x1 : Int32) (x2 : Int32) (sz : Nat) {r1 : Int32} (hf : fX4_below S x1 x2 = some r1) : Met l yX4_below (Cond.code yX4_below cX4_below 3 (some .boolean) :: XALL) ({ frames := 1, cells := 0, slots := 0, locals := 23 } : Room) (va_Pc [.ref (q 0), .int x1, .int x2] (gPre D cI ((mw cI q) S) sz)) (gQi D (mw cI q) S (fun (r : Int32) (u : St) => r = r1 ∧ u = S) sz) 0 0 (va_A ((mw cI q) S) sz) := by
  unfold fX4_below at hf
  refine Met.ofW (cc := cX4_below) (maxL := 3) (ret := (some .boolean)) (by decide) rfl ?_
  intro p e s m args below meth c s₁ B hml hv
  obtain ⟨rfl, hg⟩ := hv
  have C : Ctx p s m _ meth c cX4_below 3 RX4 (some .boolean) := Ctx.of B hml rfl
  obtain ⟨E, hw, hsz⟩ := g_start hg
  subst hsz
  have hl := lv_entry ([.ref (q 0), .int x1, .int x2]) (n := 3) (Nat.le_of_ble_eq_true rfl)
  rw [lg_entry_eq]
  generalize (lg_sl ([.ref (q 0), .int x1, .int x2]) ++ List.replicate (3 - (lg_sl ([.ref (q 0), .int x1, .int x2])).length) Slot.unset).toArray = ls at hl ⊢
  have hl : lv_has ls 3 [(0, .ref (q 0)), (1, .int x1), (2, .int x2)] := hl
  refine lv_aload_n C.1 C.2.1 dX4_below_0 rfl (lv_at hl 0 rfl) ?_
  refine lv_iload_n C.1 C.2.1 dX4_below_1 rfl (lv_at hl 1 rfl) ?_
  obtain ⟨v_1, hv_1, hf⟩ := bnd hf
  refine g_cie (wf := (mw cI q)) (S := S) (rest := []) mw_adr hw (g_runV (rm := ({ frames := 0, cells := 0, slots := 0, locals := 0 } : Room)) (As := [.int x1]) (rest := []) C E hw F_X4_above (ctX4_above l (cI := cI) (D := D) (q := q) S x1 _ hv_1) km_X4_57 0 rfl rfl rfl hl.1 rfl (Nat.le_of_ble_eq_true rfl) ⟨(Nat.le_of_ble_eq_true rfl), (Nat.le_of_ble_eq_true rfl)⟩ ⟨(Nat.le_of_ble_eq_true rfl), (Nat.le_of_ble_eq_true rfl)⟩ dX4_below_2) (fun H locs hw => ?_)
  refine lv_iload_n C.1 C.2.1 dX4_below_5 rfl (lv_at hl 2 rfl) ?_
  obtain ⟨v_2, hv_2, hf⟩ := bnd hf
  refine g_ci0e (rest := []) hw (g_run0 (rm := ({ frames := 0, cells := 0, slots := 0, locals := 0 } : Room)) (As := [.int v_1, .int x2]) (rest := []) C F_X4_is (ctX4_is l v_1 x2 hv_2) km_X4_61 rfl hl.1 rfl (Nat.le_of_ble_eq_true rfl) ⟨(Nat.le_of_ble_eq_true rfl), (Nat.le_of_ble_eq_true rfl)⟩ ⟨(Nat.le_of_ble_eq_true rfl), (Nat.le_of_ble_eq_true rfl)⟩ dX4_below_6) (fun H locs hw => ?_)
  obtain ⟨v_3, hv_3, hf⟩ := bnd hf
  rw [(zg_some hv_3).1]
  exact g_zret C hw (Nat.le_of_ble_eq_true rfl) (Nat.le_of_ble_eq_true rfl) (zg_some hv_3).2 ⟨Option.some.inj hf, rfl⟩ dX4_below_9
/-! DreamLedgerModel.tagsUnder -/
def fX4_tagsUnder_27 (S : St) (x1 : Int32) (k4 : Int32 → Int32 → Option Int32) (x3 : Int32) (t0 : Int32) (t1 : Int32) : Option Int32 :=
  Option.bind (some ((t0 + t1))) fun x2_2 =>
  Option.bind (some (x3 + 1)) fun x3_3 =>
  k4 x2_2 x3_3
set_option maxHeartbeats 4000000 in
set_option maxRecDepth 100000 in
theorem wX4_tagsUnder_27 {p : Program} {l : Launch} {e : Env} {s : State} {m : MethodId} {args : Array Value} {below : List Frame} {meth : Method} {c : Code} {D : va_G} {cI : ClassId} {q : Nat → Nat} (C : Ctx p s m args meth c cX4_tagsUnder 4 RX4 (some .int)) (E : gE D cI s) {r1 : Int32} (S : St) (x1 : Int32) (k4 : Int32 → Int32 → Option Int32) (hk4 : ∀ (x2 : Int32) (x3 : Int32), k4 x2 x3 = some r1 → ∀ (H : Heap) (locs : List Loc) (ls : Array Slot), gW D ((mw cI q) S) ((mw cI q) S) s H locs → lv_has ls 4 [(0, .ref (q 0)), (1, .int x1), (2, .int x2), (3, .int x3)] → W p l e ({ frames := 2, cells := 0, slots := 0, locals := 45 } : Room) s m args below meth c H locs 0 0 (MQ below (gQi D (mw cI q) S (fun (r : Int32) (u : St) => r = r1 ∧ u = S) s.heap.size) args s 0 0 (va_A ((mw cI q) S) s.heap.size)) (F0 m 4 ls [])) : ∀ (x3 : Int32) (t0 : Int32) (t1 : Int32), fX4_tagsUnder_27 S x1 k4 x3 t0 t1 = some r1 → ∀ (H : Heap) (locs : List Loc) (ls : Array Slot), gW D ((mw cI q) S) ((mw cI q) S) s H locs → lv_has ls 4 [(0, .ref (q 0)), (1, .int x1), (3, .int x3)] → W p l e ({ frames := 2, cells := 0, slots := 0, locals := 45 } : Room) s m args below meth c H locs 0 0 (MQ below (gQi D (mw cI q) S (fun (r : Int32) (u : St) => r = r1 ∧ u = S) s.heap.size) args s 0 0 (va_A ((mw cI q) S) s.heap.size)) (F0 m 27 ls [.int t1, .int t0]) := by
  intro x3 t0 t1 hf H locs ls hw hl
  unfold fX4_tagsUnder_27 at hf
  refine lv_iadd C.1 C.2.1 dX4_tagsUnder_27 ?_
  obtain ⟨x2_2, hx2_2, hf⟩ := bnd hf
  refine topi_b hx2_2 ?_
  refine lv_istore_n (lv' := [(2, .int x2_2), (0, .ref (q 0)), (1, .int x1), (3, .int x3)]) C.1 C.2.1 dX4_tagsUnder_28 rfl hl (by decide) rfl (fun ls hl => ?_)
  obtain ⟨x3_3, hx3_3, hf⟩ := bnd hf
  refine lv_iinc (v := x3_3) (lv' := [(3, .int x3_3), (2, .int x2_2), (0, .ref (q 0)), (1, .int x1)]) C.1 C.2.1 dX4_tagsUnder_29 hl (k := 3) rfl (inc1 hx3_3) (by decide) rfl (fun ls hl => ?_)
  refine lv_goto (tgt := 4) C.1 C.2.1 dX4_tagsUnder_32 (by decide) ?_
  exact hk4 x2_2 x3_3 hf _ _ _ hw (lv_sub hl [2, 3, 1, 0] rfl)
def fX4_tagsUnder_4 (S : St) (x1 : Int32) : Nat → Int32 → Int32 → Option Int32
  | 0, _, _ => none
  | n + 1, x2, x3 =>
    if (S 11 0) ≤ x3 then
      some x2
    else
      Option.bind (fX4_below S x3 x1) fun v_1 =>
      if v_1 = 0 then
        fX4_tagsUnder_27 S x1 (fX4_tagsUnder_4 S x1 n) x3 x2 0
      else
        fX4_tagsUnder_27 S x1 (fX4_tagsUnder_4 S x1 n) x3 x2 1
set_option maxHeartbeats 4000000 in
set_option maxRecDepth 100000 in
theorem wX4_tagsUnder_4 {p : Program} {l : Launch} {e : Env} {s : State} {m : MethodId} {args : Array Value} {below : List Frame} {meth : Method} {c : Code} {D : va_G} {cI : ClassId} {q : Nat → Nat} (C : Ctx p s m args meth c cX4_tagsUnder 4 RX4 (some .int)) (E : gE D cI s) {r1 : Int32} (S : St) (x1 : Int32) : ∀ (n : Nat) (x2 : Int32) (x3 : Int32), fX4_tagsUnder_4 S x1 n x2 x3 = some r1 → ∀ (H : Heap) (locs : List Loc) (ls : Array Slot), gW D ((mw cI q) S) ((mw cI q) S) s H locs → lv_has ls 4 [(0, .ref (q 0)), (1, .int x1), (2, .int x2), (3, .int x3)] → W p l e ({ frames := 2, cells := 0, slots := 0, locals := 45 } : Room) s m args below meth c H locs 0 0 (MQ below (gQi D (mw cI q) S (fun (r : Int32) (u : St) => r = r1 ∧ u = S) s.heap.size) args s 0 0 (va_A ((mw cI q) S) s.heap.size)) (F0 m 4 ls []) := by
  intro n
  induction n with
  | zero => intro x2 x3 hf; rw [fX4_tagsUnder_4] at hf; cases hf
  | succ n ih =>
    intro x2 x3 hf H locs ls hw hl
    rw [fX4_tagsUnder_4] at hf
    refine lv_iload_n C.1 C.2.1 dX4_tagsUnder_4 rfl (lv_at hl 3 rfl) ?_
    refine lv_aload_n C.1 C.2.1 dX4_tagsUnder_5 rfl (lv_at hl 0 rfl) ?_
    refine g_get C E hw inW4 0 rfl rfl 1 (by decide) kf_X4_44 rfl dX4_tagsUnder_6 ?_
    refine lv_icmp_ge (tgt := 35) C.1 C.2.1 dX4_tagsUnder_9 (by decide) (fun hc => ?_) (fun hc => ?_)
    · have hf := ift hc hf
      refine lv_iload_n C.1 C.2.1 dX4_tagsUnder_35 rfl (lv_at hl 2 rfl) ?_
      exact g_iret C hw (Nat.le_of_ble_eq_true rfl) (Nat.le_of_ble_eq_true rfl) ⟨Option.some.inj hf, rfl⟩ dX4_tagsUnder_36
    · have hf := iff_ hc hf
      refine lv_iload_n C.1 C.2.1 dX4_tagsUnder_12 rfl (lv_at hl 2 rfl) ?_
      refine lv_aload_n C.1 C.2.1 dX4_tagsUnder_13 rfl (lv_at hl 0 rfl) ?_
      refine lv_iload_n C.1 C.2.1 dX4_tagsUnder_14 rfl (lv_at hl 3 rfl) ?_
      refine lv_iload_n C.1 C.2.1 dX4_tagsUnder_15 rfl (lv_at hl 1 rfl) ?_
      obtain ⟨v_1, hv_1, hf⟩ := bnd hf
      refine g_cie (wf := (mw cI q)) (S := S) (rest := [.int x2]) mw_adr hw (g_runV (rm := ({ frames := 1, cells := 0, slots := 0, locals := 23 } : Room)) (As := [.int x3, .int x1]) (rest := [.int x2]) C E hw F_X4_below (ctX4_below l (cI := cI) (D := D) (q := q) S x3 x1 _ hv_1) km_X4_65 0 rfl rfl rfl hl.1 rfl (Nat.le_of_ble_eq_true rfl) ⟨(Nat.le_of_ble_eq_true rfl), (Nat.le_of_ble_eq_true rfl)⟩ ⟨(Nat.le_of_ble_eq_true rfl), (Nat.le_of_ble_eq_true rfl)⟩ dX4_tagsUnder_16) (fun H locs hw => ?_)
      refine lv_if_eq (tgt := 26) C.1 C.2.1 dX4_tagsUnder_19 (by decide) (fun hc => ?_) (fun hc => ?_)
      · have hf := ift hc hf
        refine lv_iconst (v := 0) C.1 C.2.1 dX4_tagsUnder_26 (by decide) ?_
        exact wX4_tagsUnder_27 C E S x1 (fX4_tagsUnder_4 S x1 n) ih x3 x2 0 hf _ _ _ hw (lv_sub hl [0, 1, 3] rfl)
      · have hf := iff_ hc hf
        refine lv_iconst (v := 1) C.1 C.2.1 dX4_tagsUnder_22 (by decide) ?_
        refine lv_goto (tgt := 27) C.1 C.2.1 dX4_tagsUnder_23 (by decide) ?_
        exact wX4_tagsUnder_27 C E S x1 (fX4_tagsUnder_4 S x1 n) ih x3 x2 1 hf _ _ _ hw (lv_sub hl [0, 1, 3] rfl)
def fX4_tagsUnder (S : St) (x1 : Int32) : Option Int32 :=
  fX4_tagsUnder_4 S x1 100 0 0
set_option maxHeartbeats 4000000 in
set_option maxRecDepth 100000 in
theorem ctX4_tagsUnder (l : Launch) {D : va_G} {cI : ClassId} {q : Nat → Nat} (S : St) (x1 : Int32) (sz : Nat) {r1 : Int32} (hf : fX4_tagsUnder S x1 = some r1) : Met l yX4_tagsUnder (Cond.code yX4_tagsUnder cX4_tagsUnder 4 (some .int) :: XALL) ({ frames := 2, cells := 0, slots := 0, locals := 45 } : Room) (va_Pc [.ref (q 0), .int x1] (gPre D cI ((mw cI q) S) sz)) (gQi D (mw cI q) S (fun (r : Int32) (u : St) => r = r1 ∧ u = S) sz) 0 0 (va_A ((mw cI q) S) sz) := by
  unfold fX4_tagsUnder at hf
  refine Met.ofW (cc := cX4_tagsUnder) (maxL := 4) (ret := (some .int)) (by decide) rfl ?_
  intro p e s m args below meth c s₁ B hml hv
  obtain ⟨rfl, hg⟩ := hv
  have C : Ctx p s m _ meth c cX4_tagsUnder 4 RX4 (some .int) := Ctx.of B hml rfl
  obtain ⟨E, hw, hsz⟩ := g_start hg
  subst hsz
  have hl := lv_entry ([.ref (q 0), .int x1]) (n := 4) (Nat.le_of_ble_eq_true rfl)
  rw [lg_entry_eq]
  generalize (lg_sl ([.ref (q 0), .int x1]) ++ List.replicate (4 - (lg_sl ([.ref (q 0), .int x1])).length) Slot.unset).toArray = ls at hl ⊢
  have hl : lv_has ls 4 [(0, .ref (q 0)), (1, .int x1)] := hl
  refine lv_iconst (v := 0) C.1 C.2.1 dX4_tagsUnder_0 (by decide) ?_
  refine lv_istore_n (lv' := [(2, .int 0), (0, .ref (q 0)), (1, .int x1)]) C.1 C.2.1 dX4_tagsUnder_1 rfl hl (by decide) rfl (fun ls hl => ?_)
  refine lv_iconst (v := 0) C.1 C.2.1 dX4_tagsUnder_2 (by decide) ?_
  refine lv_istore_n (lv' := [(3, .int 0), (2, .int 0), (0, .ref (q 0)), (1, .int x1)]) C.1 C.2.1 dX4_tagsUnder_3 rfl hl (by decide) rfl (fun ls hl => ?_)
  exact wX4_tagsUnder_4 C E S x1 100 0 0 hf _ _ _ hw (lv_sub hl [2, 3, 1, 0] rfl)
/-! DreamLedgerModel.reckon -/
def fX4_reckon_137 : Nat → St → Int32 → Option St
  | 0, _, _ => none
  | n + 1, S, x1 =>
    if (S 13 0) ≤ x1 then
      some S
    else
      Option.bind (ld S 4 20 x1) fun v_5 =>
      if v_5 = 0 then
        Option.bind (ld S 5 20 x1) fun v_24 =>
        Option.bind (ld S 8 16 v_24) fun v_25 =>
        Option.bind (sto S 9 20 x1 v_25) fun S_26 =>
        Option.bind (some (x1 + 1)) fun x1_27 =>
        fX4_reckon_137 n S_26 x1_27
      else
        Option.bind (ld S 4 20 x1) fun v_6 =>
        if v_6 = 1 then
          Option.bind (ld S 5 20 x1) fun v_18 =>
          Option.bind (ld S 9 20 v_18) fun v_19 =>
          Option.bind (ld S 6 20 x1) fun v_20 =>
          Option.bind (ld S 9 20 v_20) fun v_21 =>
          Option.bind (sto S 9 20 x1 (v_19 &&& v_21)) fun S_22 =>
          Option.bind (some (x1 + 1)) fun x1_23 =>
          fX4_reckon_137 n S_22 x1_23
        else
          Option.bind (ld S 4 20 x1) fun v_7 =>
          if v_7 = 2 then
            Option.bind (ld S 5 20 x1) fun v_12 =>
            Option.bind (ld S 9 20 v_12) fun v_13 =>
            Option.bind (ld S 6 20 x1) fun v_14 =>
            Option.bind (ld S 9 20 v_14) fun v_15 =>
            Option.bind (sto S 9 20 x1 (v_13 ||| v_15)) fun S_16 =>
            Option.bind (some (x1 + 1)) fun x1_17 =>
            fX4_reckon_137 n S_16 x1_17
          else
            Option.bind (ld S 5 20 x1) fun v_8 =>
            Option.bind (ld S 9 20 v_8) fun v_9 =>
            Option.bind (sto S 9 20 x1 ((v_9 ^^^ (-1)) &&& (((1 : Int32) <<< ((S 12 0) &&& 31)) - 1))) fun S_10 =>
            Option.bind (some (x1 + 1)) fun x1_11 =>
            fX4_reckon_137 n S_10 x1_11
set_option maxHeartbeats 4000000 in
set_option maxRecDepth 100000 in
theorem wX4_reckon_137 {p : Program} {l : Launch} {e : Env} {s : State} {m : MethodId} {args : Array Value} {below : List Frame} {meth : Method} {c : Code} {D : va_G} {cI : ClassId} {q : Nat → Nat} (C : Ctx p s m args meth c cX4_reckon 3 RX4 none) (E : gE D cI s) {S0 : St} {S1 : St} : ∀ (n : Nat) (S : St) (x1 : Int32), fX4_reckon_137 n S x1 = some S1 → ∀ (H : Heap) (locs : List Loc) (ls : Array Slot), gW D ((mw cI q) S0) ((mw cI q) S) s H locs → lv_has ls 3 [(0, .ref (q 0)), (1, .int x1)] → W p l e ({ frames := 1, cells := 0, slots := 0, locals := 23 } : Room) s m args below meth c H locs 0 0 (MQ below (gQv D (mw cI q) S0 (fun (u : St) => u = S1) s.heap.size) args s 0 0 (va_A ((mw cI q) S0) s.heap.size)) (F0 m 137 ls []) := by
  intro n
  induction n with
  | zero => intro S x1 hf; rw [fX4_reckon_137] at hf; cases hf
  | succ n ih =>
    intro S x1 hf H locs ls hw hl
    rw [fX4_reckon_137] at hf
    refine lv_iload_n C.1 C.2.1 dX4_reckon_137 rfl (lv_at hl 1 rfl) ?_
    refine lv_aload_n C.1 C.2.1 dX4_reckon_138 rfl (lv_at hl 0 rfl) ?_
    refine g_get C E hw inW4 0 rfl rfl 3 (by decide) kf_X4_54 rfl dX4_reckon_139 ?_
    refine lv_icmp_ge (tgt := 292) C.1 C.2.1 dX4_reckon_142 (by decide) (fun hc => ?_) (fun hc => ?_)
    · have hf := ift hc hf
      exact g_vret C hw (Nat.le_of_ble_eq_true rfl) (Nat.le_of_ble_eq_true rfl) (Option.some.inj hf) dX4_reckon_292
    · have hf := iff_ hc hf
      refine lv_aload_n C.1 C.2.1 dX4_reckon_145 rfl (lv_at hl 0 rfl) ?_
      refine g_get C E hw inW4 0 rfl rfl 9 (by decide) kf_X4_22 rfl dX4_reckon_146 ?_
      refine lv_iload_n C.1 C.2.1 dX4_reckon_149 rfl (lv_at hl 1 rfl) ?_
      obtain ⟨v_5, hv_5, hf⟩ := bnd hf
      refine g_ald C E hw 5 rfl (ld_some hv_5) dX4_reckon_150 ?_
      refine lv_if_ne (tgt := 174) C.1 C.2.1 dX4_reckon_151 (by decide) (fun hc => ?_) (fun hc => ?_)
      · have hf := iff_ hc hf
        refine lv_aload_n C.1 C.2.1 dX4_reckon_174 rfl (lv_at hl 0 rfl) ?_
        refine g_get C E hw inW4 0 rfl rfl 9 (by decide) kf_X4_22 rfl dX4_reckon_175 ?_
        refine lv_iload_n C.1 C.2.1 dX4_reckon_178 rfl (lv_at hl 1 rfl) ?_
        obtain ⟨v_6, hv_6, hf⟩ := bnd hf
        refine g_ald C E hw 5 rfl (ld_some hv_6) dX4_reckon_179 ?_
        refine lv_iconst (v := 1) C.1 C.2.1 dX4_reckon_180 (by decide) ?_
        refine lv_icmp_ne (tgt := 216) C.1 C.2.1 dX4_reckon_181 (by decide) (fun hc => ?_) (fun hc => ?_)
        · have hf := iff_ hc hf
          refine lv_aload_n C.1 C.2.1 dX4_reckon_216 rfl (lv_at hl 0 rfl) ?_
          refine g_get C E hw inW4 0 rfl rfl 9 (by decide) kf_X4_22 rfl dX4_reckon_217 ?_
          refine lv_iload_n C.1 C.2.1 dX4_reckon_220 rfl (lv_at hl 1 rfl) ?_
          obtain ⟨v_7, hv_7, hf⟩ := bnd hf
          refine g_ald C E hw 5 rfl (ld_some hv_7) dX4_reckon_221 ?_
          refine lv_iconst (v := 2) C.1 C.2.1 dX4_reckon_222 (by decide) ?_
          refine lv_icmp_ne (tgt := 258) C.1 C.2.1 dX4_reckon_223 (by decide) (fun hc => ?_) (fun hc => ?_)
          · have hf := iff_ hc hf
            refine lv_aload_n C.1 C.2.1 dX4_reckon_258 rfl (lv_at hl 0 rfl) ?_
            refine g_get C E hw inW4 0 rfl rfl 14 (by decide) kf_X4_37 rfl dX4_reckon_259 ?_
            refine lv_iload_n C.1 C.2.1 dX4_reckon_262 rfl (lv_at hl 1 rfl) ?_
            refine lv_aload_n C.1 C.2.1 dX4_reckon_263 rfl (lv_at hl 0 rfl) ?_
            refine g_get C E hw inW4 0 rfl rfl 14 (by decide) kf_X4_37 rfl dX4_reckon_264 ?_
            refine lv_aload_n C.1 C.2.1 dX4_reckon_267 rfl (lv_at hl 0 rfl) ?_
            refine g_get C E hw inW4 0 rfl rfl 10 (by decide) kf_X4_25 rfl dX4_reckon_268 ?_
            refine lv_iload_n C.1 C.2.1 dX4_reckon_271 rfl (lv_at hl 1 rfl) ?_
            obtain ⟨v_8, hv_8, hf⟩ := bnd hf
            refine g_ald C E hw 6 rfl (ld_some hv_8) dX4_reckon_272 ?_
            obtain ⟨v_9, hv_9, hf⟩ := bnd hf
            refine g_ald C E hw 10 rfl (ld_some hv_9) dX4_reckon_273 ?_
            refine lv_iconst (v := (-1)) C.1 C.2.1 dX4_reckon_274 (by decide) ?_
            refine lv_ixor C.1 C.2.1 dX4_reckon_275 ?_
            refine lv_iconst (v := 1) C.1 C.2.1 dX4_reckon_276 (by decide) ?_
            refine lv_aload_n C.1 C.2.1 dX4_reckon_277 rfl (lv_at hl 0 rfl) ?_
            refine g_get C E hw inW4 0 rfl rfl 2 (by decide) kf_X4_51 rfl dX4_reckon_278 ?_
            refine lv_ishl C.1 C.2.1 dX4_reckon_281 ?_
            refine lv_iconst (v := 1) C.1 C.2.1 dX4_reckon_282 (by decide) ?_
            refine lv_isub C.1 C.2.1 dX4_reckon_283 ?_
            refine lv_iand C.1 C.2.1 dX4_reckon_284 ?_
            obtain ⟨S_10, hS_10, hf⟩ := bnd hf
            refine g_ast C E hw 10 rfl (sto_some hS_10).1 (ws' := (mw cI q) S_10) (by rw [← (sto_some hS_10).2]; rfl) dX4_reckon_285 (fun H locs hw => ?_)
            obtain ⟨x1_11, hx1_11, hf⟩ := bnd hf
            refine lv_iinc (v := x1_11) (lv' := [(1, .int x1_11), (0, .ref (q 0))]) C.1 C.2.1 dX4_reckon_286 hl (k := 1) rfl (inc1 hx1_11) (by decide) rfl (fun ls hl => ?_)
            refine lv_goto (tgt := 137) C.1 C.2.1 dX4_reckon_289 (by decide) ?_
            exact ih S_10 x1_11 hf _ _ _ hw (lv_sub hl [1, 0] rfl)
          · have hf := ift hc hf
            refine lv_aload_n C.1 C.2.1 dX4_reckon_226 rfl (lv_at hl 0 rfl) ?_
            refine g_get C E hw inW4 0 rfl rfl 14 (by decide) kf_X4_37 rfl dX4_reckon_227 ?_
            refine lv_iload_n C.1 C.2.1 dX4_reckon_230 rfl (lv_at hl 1 rfl) ?_
            refine lv_aload_n C.1 C.2.1 dX4_reckon_231 rfl (lv_at hl 0 rfl) ?_
            refine g_get C E hw inW4 0 rfl rfl 14 (by decide) kf_X4_37 rfl dX4_reckon_232 ?_
            refine lv_aload_n C.1 C.2.1 dX4_reckon_235 rfl (lv_at hl 0 rfl) ?_
            refine g_get C E hw inW4 0 rfl rfl 10 (by decide) kf_X4_25 rfl dX4_reckon_236 ?_
            refine lv_iload_n C.1 C.2.1 dX4_reckon_239 rfl (lv_at hl 1 rfl) ?_
            obtain ⟨v_12, hv_12, hf⟩ := bnd hf
            refine g_ald C E hw 6 rfl (ld_some hv_12) dX4_reckon_240 ?_
            obtain ⟨v_13, hv_13, hf⟩ := bnd hf
            refine g_ald C E hw 10 rfl (ld_some hv_13) dX4_reckon_241 ?_
            refine lv_aload_n C.1 C.2.1 dX4_reckon_242 rfl (lv_at hl 0 rfl) ?_
            refine g_get C E hw inW4 0 rfl rfl 14 (by decide) kf_X4_37 rfl dX4_reckon_243 ?_
            refine lv_aload_n C.1 C.2.1 dX4_reckon_246 rfl (lv_at hl 0 rfl) ?_
            refine g_get C E hw inW4 0 rfl rfl 11 (by decide) kf_X4_28 rfl dX4_reckon_247 ?_
            refine lv_iload_n C.1 C.2.1 dX4_reckon_250 rfl (lv_at hl 1 rfl) ?_
            obtain ⟨v_14, hv_14, hf⟩ := bnd hf
            refine g_ald C E hw 7 rfl (ld_some hv_14) dX4_reckon_251 ?_
            obtain ⟨v_15, hv_15, hf⟩ := bnd hf
            refine g_ald C E hw 10 rfl (ld_some hv_15) dX4_reckon_252 ?_
            refine lv_ior C.1 C.2.1 dX4_reckon_253 ?_
            obtain ⟨S_16, hS_16, hf⟩ := bnd hf
            refine g_ast C E hw 10 rfl (sto_some hS_16).1 (ws' := (mw cI q) S_16) (by rw [← (sto_some hS_16).2]; rfl) dX4_reckon_254 (fun H locs hw => ?_)
            refine lv_goto (tgt := 286) C.1 C.2.1 dX4_reckon_255 (by decide) ?_
            obtain ⟨x1_17, hx1_17, hf⟩ := bnd hf
            refine lv_iinc (v := x1_17) (lv' := [(1, .int x1_17), (0, .ref (q 0))]) C.1 C.2.1 dX4_reckon_286 hl (k := 1) rfl (inc1 hx1_17) (by decide) rfl (fun ls hl => ?_)
            refine lv_goto (tgt := 137) C.1 C.2.1 dX4_reckon_289 (by decide) ?_
            exact ih S_16 x1_17 hf _ _ _ hw (lv_sub hl [1, 0] rfl)
        · have hf := ift hc hf
          refine lv_aload_n C.1 C.2.1 dX4_reckon_184 rfl (lv_at hl 0 rfl) ?_
          refine g_get C E hw inW4 0 rfl rfl 14 (by decide) kf_X4_37 rfl dX4_reckon_185 ?_
          refine lv_iload_n C.1 C.2.1 dX4_reckon_188 rfl (lv_at hl 1 rfl) ?_
          refine lv_aload_n C.1 C.2.1 dX4_reckon_189 rfl (lv_at hl 0 rfl) ?_
          refine g_get C E hw inW4 0 rfl rfl 14 (by decide) kf_X4_37 rfl dX4_reckon_190 ?_
          refine lv_aload_n C.1 C.2.1 dX4_reckon_193 rfl (lv_at hl 0 rfl) ?_
          refine g_get C E hw inW4 0 rfl rfl 10 (by decide) kf_X4_25 rfl dX4_reckon_194 ?_
          refine lv_iload_n C.1 C.2.1 dX4_reckon_197 rfl (lv_at hl 1 rfl) ?_
          obtain ⟨v_18, hv_18, hf⟩ := bnd hf
          refine g_ald C E hw 6 rfl (ld_some hv_18) dX4_reckon_198 ?_
          obtain ⟨v_19, hv_19, hf⟩ := bnd hf
          refine g_ald C E hw 10 rfl (ld_some hv_19) dX4_reckon_199 ?_
          refine lv_aload_n C.1 C.2.1 dX4_reckon_200 rfl (lv_at hl 0 rfl) ?_
          refine g_get C E hw inW4 0 rfl rfl 14 (by decide) kf_X4_37 rfl dX4_reckon_201 ?_
          refine lv_aload_n C.1 C.2.1 dX4_reckon_204 rfl (lv_at hl 0 rfl) ?_
          refine g_get C E hw inW4 0 rfl rfl 11 (by decide) kf_X4_28 rfl dX4_reckon_205 ?_
          refine lv_iload_n C.1 C.2.1 dX4_reckon_208 rfl (lv_at hl 1 rfl) ?_
          obtain ⟨v_20, hv_20, hf⟩ := bnd hf
          refine g_ald C E hw 7 rfl (ld_some hv_20) dX4_reckon_209 ?_
          obtain ⟨v_21, hv_21, hf⟩ := bnd hf
          refine g_ald C E hw 10 rfl (ld_some hv_21) dX4_reckon_210 ?_
          refine lv_iand C.1 C.2.1 dX4_reckon_211 ?_
          obtain ⟨S_22, hS_22, hf⟩ := bnd hf
          refine g_ast C E hw 10 rfl (sto_some hS_22).1 (ws' := (mw cI q) S_22) (by rw [← (sto_some hS_22).2]; rfl) dX4_reckon_212 (fun H locs hw => ?_)
          refine lv_goto (tgt := 286) C.1 C.2.1 dX4_reckon_213 (by decide) ?_
          obtain ⟨x1_23, hx1_23, hf⟩ := bnd hf
          refine lv_iinc (v := x1_23) (lv' := [(1, .int x1_23), (0, .ref (q 0))]) C.1 C.2.1 dX4_reckon_286 hl (k := 1) rfl (inc1 hx1_23) (by decide) rfl (fun ls hl => ?_)
          refine lv_goto (tgt := 137) C.1 C.2.1 dX4_reckon_289 (by decide) ?_
          exact ih S_22 x1_23 hf _ _ _ hw (lv_sub hl [1, 0] rfl)
      · have hf := ift hc hf
        refine lv_aload_n C.1 C.2.1 dX4_reckon_154 rfl (lv_at hl 0 rfl) ?_
        refine g_get C E hw inW4 0 rfl rfl 14 (by decide) kf_X4_37 rfl dX4_reckon_155 ?_
        refine lv_iload_n C.1 C.2.1 dX4_reckon_158 rfl (lv_at hl 1 rfl) ?_
        refine lv_aload_n C.1 C.2.1 dX4_reckon_159 rfl (lv_at hl 0 rfl) ?_
        refine g_get C E hw inW4 0 rfl rfl 13 (by decide) kf_X4_34 rfl dX4_reckon_160 ?_
        refine lv_aload_n C.1 C.2.1 dX4_reckon_163 rfl (lv_at hl 0 rfl) ?_
        refine g_get C E hw inW4 0 rfl rfl 10 (by decide) kf_X4_25 rfl dX4_reckon_164 ?_
        refine lv_iload_n C.1 C.2.1 dX4_reckon_167 rfl (lv_at hl 1 rfl) ?_
        obtain ⟨v_24, hv_24, hf⟩ := bnd hf
        refine g_ald C E hw 6 rfl (ld_some hv_24) dX4_reckon_168 ?_
        obtain ⟨v_25, hv_25, hf⟩ := bnd hf
        refine g_ald C E hw 9 rfl (ld_some hv_25) dX4_reckon_169 ?_
        obtain ⟨S_26, hS_26, hf⟩ := bnd hf
        refine g_ast C E hw 10 rfl (sto_some hS_26).1 (ws' := (mw cI q) S_26) (by rw [← (sto_some hS_26).2]; rfl) dX4_reckon_170 (fun H locs hw => ?_)
        refine lv_goto (tgt := 286) C.1 C.2.1 dX4_reckon_171 (by decide) ?_
        obtain ⟨x1_27, hx1_27, hf⟩ := bnd hf
        refine lv_iinc (v := x1_27) (lv' := [(1, .int x1_27), (0, .ref (q 0))]) C.1 C.2.1 dX4_reckon_286 hl (k := 1) rfl (inc1 hx1_27) (by decide) rfl (fun ls hl => ?_)
        refine lv_goto (tgt := 137) C.1 C.2.1 dX4_reckon_289 (by decide) ?_
        exact ih S_26 x1_27 hf _ _ _ hw (lv_sub hl [1, 0] rfl)
def fX4_reckon_90 (x1 : Int32) (k25 : St → Int32 → Option St) : Nat → St → Int32 → Option St
  | 0, _, _ => none
  | n + 1, S, x2 =>
    if (S 11 0) ≤ x2 then
      Option.bind (some (x1 + 1)) fun x1_35 =>
      k25 S x1_35
    else
      Option.bind (ld S 7 24 x1) fun v_36 =>
      Option.bind (fX4_is v_36 x2) fun v_37 =>
      if v_37 = 0 then
        Option.bind (some (x2 + 1)) fun x2_38 =>
        fX4_reckon_90 x1 k25 n S x2_38
      else
        Option.bind (ld S 8 16 x2) fun v_39 =>
        Option.bind (sto S 8 16 x2 (v_39 ||| ((1 : Int32) <<< (x1 &&& 31)))) fun S_40 =>
        Option.bind (some (x2 + 1)) fun x2_41 =>
        fX4_reckon_90 x1 k25 n S_40 x2_41
set_option maxHeartbeats 4000000 in
set_option maxRecDepth 100000 in
theorem wX4_reckon_90 {p : Program} {l : Launch} {e : Env} {s : State} {m : MethodId} {args : Array Value} {below : List Frame} {meth : Method} {c : Code} {D : va_G} {cI : ClassId} {q : Nat → Nat} (C : Ctx p s m args meth c cX4_reckon 3 RX4 none) (E : gE D cI s) {S0 : St} {S1 : St} (x1 : Int32) (k25 : St → Int32 → Option St) (hk25 : ∀ (S : St) (x1 : Int32), k25 S x1 = some S1 → ∀ (H : Heap) (locs : List Loc) (ls : Array Slot), gW D ((mw cI q) S0) ((mw cI q) S) s H locs → lv_has ls 3 [(0, .ref (q 0)), (1, .int x1)] → W p l e ({ frames := 1, cells := 0, slots := 0, locals := 23 } : Room) s m args below meth c H locs 0 0 (MQ below (gQv D (mw cI q) S0 (fun (u : St) => u = S1) s.heap.size) args s 0 0 (va_A ((mw cI q) S0) s.heap.size)) (F0 m 25 ls [])) : ∀ (n : Nat) (S : St) (x2 : Int32), fX4_reckon_90 x1 k25 n S x2 = some S1 → ∀ (H : Heap) (locs : List Loc) (ls : Array Slot), gW D ((mw cI q) S0) ((mw cI q) S) s H locs → lv_has ls 3 [(0, .ref (q 0)), (1, .int x1), (2, .int x2)] → W p l e ({ frames := 1, cells := 0, slots := 0, locals := 23 } : Room) s m args below meth c H locs 0 0 (MQ below (gQv D (mw cI q) S0 (fun (u : St) => u = S1) s.heap.size) args s 0 0 (va_A ((mw cI q) S0) s.heap.size)) (F0 m 90 ls []) := by
  intro n
  induction n with
  | zero => intro S x2 hf; rw [fX4_reckon_90] at hf; cases hf
  | succ n ih =>
    intro S x2 hf H locs ls hw hl
    rw [fX4_reckon_90] at hf
    refine lv_iload_n C.1 C.2.1 dX4_reckon_90 rfl (lv_at hl 2 rfl) ?_
    refine lv_aload_n C.1 C.2.1 dX4_reckon_91 rfl (lv_at hl 0 rfl) ?_
    refine g_get C E hw inW4 0 rfl rfl 1 (by decide) kf_X4_44 rfl dX4_reckon_92 ?_
    refine lv_icmp_ge (tgt := 129) C.1 C.2.1 dX4_reckon_95 (by decide) (fun hc => ?_) (fun hc => ?_)
    · have hf := ift hc hf
      obtain ⟨x1_35, hx1_35, hf⟩ := bnd hf
      refine lv_iinc (v := x1_35) (lv' := [(1, .int x1_35), (0, .ref (q 0)), (2, .int x2)]) C.1 C.2.1 dX4_reckon_129 hl (k := 1) rfl (inc1 hx1_35) (by decide) rfl (fun ls hl => ?_)
      refine lv_goto (tgt := 25) C.1 C.2.1 dX4_reckon_132 (by decide) ?_
      exact hk25 S x1_35 hf _ _ _ hw (lv_sub hl [1, 0] rfl)
    · have hf := iff_ hc hf
      refine lv_aload_n C.1 C.2.1 dX4_reckon_98 rfl (lv_at hl 0 rfl) ?_
      refine g_get C E hw inW4 0 rfl rfl 12 (by decide) kf_X4_31 rfl dX4_reckon_99 ?_
      refine lv_iload_n C.1 C.2.1 dX4_reckon_102 rfl (lv_at hl 1 rfl) ?_
      obtain ⟨v_36, hv_36, hf⟩ := bnd hf
      refine g_ald C E hw 8 rfl (ld_some hv_36) dX4_reckon_103 ?_
      refine lv_iload_n C.1 C.2.1 dX4_reckon_104 rfl (lv_at hl 2 rfl) ?_
      obtain ⟨v_37, hv_37, hf⟩ := bnd hf
      refine g_ci0e (rest := []) hw (g_run0 (rm := ({ frames := 0, cells := 0, slots := 0, locals := 0 } : Room)) (As := [.int v_36, .int x2]) (rest := []) C F_X4_is (ctX4_is l v_36 x2 hv_37) km_X4_61 rfl hl.1 rfl (Nat.le_of_ble_eq_true rfl) ⟨(Nat.le_of_ble_eq_true rfl), (Nat.le_of_ble_eq_true rfl)⟩ ⟨(Nat.le_of_ble_eq_true rfl), (Nat.le_of_ble_eq_true rfl)⟩ dX4_reckon_105) (fun H locs hw => ?_)
      refine lv_if_eq (tgt := 123) C.1 C.2.1 dX4_reckon_108 (by decide) (fun hc => ?_) (fun hc => ?_)
      · have hf := ift hc hf
        obtain ⟨x2_38, hx2_38, hf⟩ := bnd hf
        refine lv_iinc (v := x2_38) (lv' := [(2, .int x2_38), (0, .ref (q 0)), (1, .int x1)]) C.1 C.2.1 dX4_reckon_123 hl (k := 2) rfl (inc1 hx2_38) (by decide) rfl (fun ls hl => ?_)
        refine lv_goto (tgt := 90) C.1 C.2.1 dX4_reckon_126 (by decide) ?_
        exact ih S x2_38 hf _ _ _ hw (lv_sub hl [1, 2, 0] rfl)
      · have hf := iff_ hc hf
        refine lv_aload_n C.1 C.2.1 dX4_reckon_111 rfl (lv_at hl 0 rfl) ?_
        refine g_get C E hw inW4 0 rfl rfl 13 (by decide) kf_X4_34 rfl dX4_reckon_112 ?_
        refine lv_iload_n C.1 C.2.1 dX4_reckon_115 rfl (lv_at hl 2 rfl) ?_
        refine lv_dup2_11 C.1 C.2.1 dX4_reckon_116 rfl rfl ?_
        obtain ⟨v_39, hv_39, hf⟩ := bnd hf
        refine g_ald C E hw 9 rfl (ld_some hv_39) dX4_reckon_117 ?_
        refine lv_iconst (v := 1) C.1 C.2.1 dX4_reckon_118 (by decide) ?_
        refine lv_iload_n C.1 C.2.1 dX4_reckon_119 rfl (lv_at hl 1 rfl) ?_
        refine lv_ishl C.1 C.2.1 dX4_reckon_120 ?_
        refine lv_ior C.1 C.2.1 dX4_reckon_121 ?_
        obtain ⟨S_40, hS_40, hf⟩ := bnd hf
        refine g_ast C E hw 9 rfl (sto_some hS_40).1 (ws' := (mw cI q) S_40) (by rw [← (sto_some hS_40).2]; rfl) dX4_reckon_122 (fun H locs hw => ?_)
        obtain ⟨x2_41, hx2_41, hf⟩ := bnd hf
        refine lv_iinc (v := x2_41) (lv' := [(2, .int x2_41), (0, .ref (q 0)), (1, .int x1)]) C.1 C.2.1 dX4_reckon_123 hl (k := 2) rfl (inc1 hx2_41) (by decide) rfl (fun ls hl => ?_)
        refine lv_goto (tgt := 90) C.1 C.2.1 dX4_reckon_126 (by decide) ?_
        exact ih S_40 x2_41 hf _ _ _ hw (lv_sub hl [1, 2, 0] rfl)
def fX4_reckon_47 (x1 : Int32) (k25 : St → Int32 → Option St) : Nat → St → Int32 → Option St
  | 0, _, _ => none
  | n + 1, S, x2 =>
    if (S 11 0) ≤ x2 then
      fX4_reckon_90 x1 k25 100 S 0
    else
      Option.bind (ld S 1 24 x1) fun v_28 =>
      Option.bind (fX4_is v_28 x2) fun v_29 =>
      if v_29 = 0 then
        Option.bind (some (x2 + 1)) fun x2_30 =>
        fX4_reckon_47 x1 k25 n S x2_30
      else
        Option.bind (ld S 7 24 x1) fun v_31 =>
        Option.bind (fX4_above S x2) fun v_32 =>
        Option.bind (sto S 7 24 x1 (v_31 ||| v_32)) fun S_33 =>
        Option.bind (some (x2 + 1)) fun x2_34 =>
        fX4_reckon_47 x1 k25 n S_33 x2_34
set_option maxHeartbeats 4000000 in
set_option maxRecDepth 100000 in
theorem wX4_reckon_47 {p : Program} {l : Launch} {e : Env} {s : State} {m : MethodId} {args : Array Value} {below : List Frame} {meth : Method} {c : Code} {D : va_G} {cI : ClassId} {q : Nat → Nat} (C : Ctx p s m args meth c cX4_reckon 3 RX4 none) (E : gE D cI s) {S0 : St} {S1 : St} (x1 : Int32) (k25 : St → Int32 → Option St) (hk25 : ∀ (S : St) (x1 : Int32), k25 S x1 = some S1 → ∀ (H : Heap) (locs : List Loc) (ls : Array Slot), gW D ((mw cI q) S0) ((mw cI q) S) s H locs → lv_has ls 3 [(0, .ref (q 0)), (1, .int x1)] → W p l e ({ frames := 1, cells := 0, slots := 0, locals := 23 } : Room) s m args below meth c H locs 0 0 (MQ below (gQv D (mw cI q) S0 (fun (u : St) => u = S1) s.heap.size) args s 0 0 (va_A ((mw cI q) S0) s.heap.size)) (F0 m 25 ls [])) : ∀ (n : Nat) (S : St) (x2 : Int32), fX4_reckon_47 x1 k25 n S x2 = some S1 → ∀ (H : Heap) (locs : List Loc) (ls : Array Slot), gW D ((mw cI q) S0) ((mw cI q) S) s H locs → lv_has ls 3 [(0, .ref (q 0)), (1, .int x1), (2, .int x2)] → W p l e ({ frames := 1, cells := 0, slots := 0, locals := 23 } : Room) s m args below meth c H locs 0 0 (MQ below (gQv D (mw cI q) S0 (fun (u : St) => u = S1) s.heap.size) args s 0 0 (va_A ((mw cI q) S0) s.heap.size)) (F0 m 47 ls []) := by
  intro n
  induction n with
  | zero => intro S x2 hf; rw [fX4_reckon_47] at hf; cases hf
  | succ n ih =>
    intro S x2 hf H locs ls hw hl
    rw [fX4_reckon_47] at hf
    refine lv_iload_n C.1 C.2.1 dX4_reckon_47 rfl (lv_at hl 2 rfl) ?_
    refine lv_aload_n C.1 C.2.1 dX4_reckon_48 rfl (lv_at hl 0 rfl) ?_
    refine g_get C E hw inW4 0 rfl rfl 1 (by decide) kf_X4_44 rfl dX4_reckon_49 ?_
    refine lv_icmp_ge (tgt := 88) C.1 C.2.1 dX4_reckon_52 (by decide) (fun hc => ?_) (fun hc => ?_)
    · have hf := ift hc hf
      refine lv_iconst (v := 0) C.1 C.2.1 dX4_reckon_88 (by decide) ?_
      refine lv_istore_n (lv' := [(2, .int 0), (0, .ref (q 0)), (1, .int x1)]) C.1 C.2.1 dX4_reckon_89 rfl hl (by decide) rfl (fun ls hl => ?_)
      exact wX4_reckon_90 C E x1 k25 hk25 100 S 0 hf _ _ _ hw (lv_sub hl [1, 2, 0] rfl)
    · have hf := iff_ hc hf
      refine lv_aload_n C.1 C.2.1 dX4_reckon_55 rfl (lv_at hl 0 rfl) ?_
      refine g_get C E hw inW4 0 rfl rfl 6 (by decide) kf_X4_13 rfl dX4_reckon_56 ?_
      refine lv_iload_n C.1 C.2.1 dX4_reckon_59 rfl (lv_at hl 1 rfl) ?_
      obtain ⟨v_28, hv_28, hf⟩ := bnd hf
      refine g_ald C E hw 2 rfl (ld_some hv_28) dX4_reckon_60 ?_
      refine lv_iload_n C.1 C.2.1 dX4_reckon_61 rfl (lv_at hl 2 rfl) ?_
      obtain ⟨v_29, hv_29, hf⟩ := bnd hf
      refine g_ci0e (rest := []) hw (g_run0 (rm := ({ frames := 0, cells := 0, slots := 0, locals := 0 } : Room)) (As := [.int v_28, .int x2]) (rest := []) C F_X4_is (ctX4_is l v_28 x2 hv_29) km_X4_61 rfl hl.1 rfl (Nat.le_of_ble_eq_true rfl) ⟨(Nat.le_of_ble_eq_true rfl), (Nat.le_of_ble_eq_true rfl)⟩ ⟨(Nat.le_of_ble_eq_true rfl), (Nat.le_of_ble_eq_true rfl)⟩ dX4_reckon_62) (fun H locs hw => ?_)
      refine lv_if_eq (tgt := 82) C.1 C.2.1 dX4_reckon_65 (by decide) (fun hc => ?_) (fun hc => ?_)
      · have hf := ift hc hf
        obtain ⟨x2_30, hx2_30, hf⟩ := bnd hf
        refine lv_iinc (v := x2_30) (lv' := [(2, .int x2_30), (0, .ref (q 0)), (1, .int x1)]) C.1 C.2.1 dX4_reckon_82 hl (k := 2) rfl (inc1 hx2_30) (by decide) rfl (fun ls hl => ?_)
        refine lv_goto (tgt := 47) C.1 C.2.1 dX4_reckon_85 (by decide) ?_
        exact ih S x2_30 hf _ _ _ hw (lv_sub hl [1, 2, 0] rfl)
      · have hf := iff_ hc hf
        refine lv_aload_n C.1 C.2.1 dX4_reckon_68 rfl (lv_at hl 0 rfl) ?_
        refine g_get C E hw inW4 0 rfl rfl 12 (by decide) kf_X4_31 rfl dX4_reckon_69 ?_
        refine lv_iload_n C.1 C.2.1 dX4_reckon_72 rfl (lv_at hl 1 rfl) ?_
        refine lv_dup2_11 C.1 C.2.1 dX4_reckon_73 rfl rfl ?_
        obtain ⟨v_31, hv_31, hf⟩ := bnd hf
        refine g_ald C E hw 8 rfl (ld_some hv_31) dX4_reckon_74 ?_
        refine lv_aload_n C.1 C.2.1 dX4_reckon_75 rfl (lv_at hl 0 rfl) ?_
        refine lv_iload_n C.1 C.2.1 dX4_reckon_76 rfl (lv_at hl 2 rfl) ?_
        obtain ⟨v_32, hv_32, hf⟩ := bnd hf
        refine g_cie (wf := (mw cI q)) (S := S) (rest := [.int v_31, .int x1, .ref (q 8)]) mw_adr hw (g_runV (rm := ({ frames := 0, cells := 0, slots := 0, locals := 0 } : Room)) (As := [.int x2]) (rest := [.int v_31, .int x1, .ref (q 8)]) C E hw F_X4_above (ctX4_above l (cI := cI) (D := D) (q := q) S x2 _ hv_32) km_X4_57 0 rfl rfl rfl hl.1 rfl (Nat.le_of_ble_eq_true rfl) ⟨(Nat.le_of_ble_eq_true rfl), (Nat.le_of_ble_eq_true rfl)⟩ ⟨(Nat.le_of_ble_eq_true rfl), (Nat.le_of_ble_eq_true rfl)⟩ dX4_reckon_77) (fun H locs hw => ?_)
        refine lv_ior C.1 C.2.1 dX4_reckon_80 ?_
        obtain ⟨S_33, hS_33, hf⟩ := bnd hf
        refine g_ast C E hw 8 rfl (sto_some hS_33).1 (ws' := (mw cI q) S_33) (by rw [← (sto_some hS_33).2]; rfl) dX4_reckon_81 (fun H locs hw => ?_)
        obtain ⟨x2_34, hx2_34, hf⟩ := bnd hf
        refine lv_iinc (v := x2_34) (lv' := [(2, .int x2_34), (0, .ref (q 0)), (1, .int x1)]) C.1 C.2.1 dX4_reckon_82 hl (k := 2) rfl (inc1 hx2_34) (by decide) rfl (fun ls hl => ?_)
        refine lv_goto (tgt := 47) C.1 C.2.1 dX4_reckon_85 (by decide) ?_
        exact ih S_33 x2_34 hf _ _ _ hw (lv_sub hl [1, 2, 0] rfl)
def fX4_reckon_25 : Nat → St → Int32 → Option St
  | 0, _, _ => none
  | n + 1, S, x1 =>
    if (S 12 0) ≤ x1 then
      fX4_reckon_137 100 S 0
    else
      Option.bind (ld S 1 24 x1) fun v_3 =>
      Option.bind (sto S 7 24 x1 v_3) fun S_4 =>
      fX4_reckon_47 x1 (fX4_reckon_25 n) 100 S_4 0
set_option maxHeartbeats 4000000 in
set_option maxRecDepth 100000 in
theorem wX4_reckon_25 {p : Program} {l : Launch} {e : Env} {s : State} {m : MethodId} {args : Array Value} {below : List Frame} {meth : Method} {c : Code} {D : va_G} {cI : ClassId} {q : Nat → Nat} (C : Ctx p s m args meth c cX4_reckon 3 RX4 none) (E : gE D cI s) {S0 : St} {S1 : St} : ∀ (n : Nat) (S : St) (x1 : Int32), fX4_reckon_25 n S x1 = some S1 → ∀ (H : Heap) (locs : List Loc) (ls : Array Slot), gW D ((mw cI q) S0) ((mw cI q) S) s H locs → lv_has ls 3 [(0, .ref (q 0)), (1, .int x1)] → W p l e ({ frames := 1, cells := 0, slots := 0, locals := 23 } : Room) s m args below meth c H locs 0 0 (MQ below (gQv D (mw cI q) S0 (fun (u : St) => u = S1) s.heap.size) args s 0 0 (va_A ((mw cI q) S0) s.heap.size)) (F0 m 25 ls []) := by
  intro n
  induction n with
  | zero => intro S x1 hf; rw [fX4_reckon_25] at hf; cases hf
  | succ n ih =>
    intro S x1 hf H locs ls hw hl
    rw [fX4_reckon_25] at hf
    refine lv_iload_n C.1 C.2.1 dX4_reckon_25 rfl (lv_at hl 1 rfl) ?_
    refine lv_aload_n C.1 C.2.1 dX4_reckon_26 rfl (lv_at hl 0 rfl) ?_
    refine g_get C E hw inW4 0 rfl rfl 2 (by decide) kf_X4_51 rfl dX4_reckon_27 ?_
    refine lv_icmp_ge (tgt := 135) C.1 C.2.1 dX4_reckon_30 (by decide) (fun hc => ?_) (fun hc => ?_)
    · have hf := ift hc hf
      refine lv_iconst (v := 0) C.1 C.2.1 dX4_reckon_135 (by decide) ?_
      refine lv_istore_n (lv' := [(1, .int 0), (0, .ref (q 0))]) C.1 C.2.1 dX4_reckon_136 rfl hl (by decide) rfl (fun ls hl => ?_)
      exact wX4_reckon_137 C E 100 S 0 hf _ _ _ hw (lv_sub hl [1, 0] rfl)
    · have hf := iff_ hc hf
      refine lv_aload_n C.1 C.2.1 dX4_reckon_33 rfl (lv_at hl 0 rfl) ?_
      refine g_get C E hw inW4 0 rfl rfl 12 (by decide) kf_X4_31 rfl dX4_reckon_34 ?_
      refine lv_iload_n C.1 C.2.1 dX4_reckon_37 rfl (lv_at hl 1 rfl) ?_
      refine lv_aload_n C.1 C.2.1 dX4_reckon_38 rfl (lv_at hl 0 rfl) ?_
      refine g_get C E hw inW4 0 rfl rfl 6 (by decide) kf_X4_13 rfl dX4_reckon_39 ?_
      refine lv_iload_n C.1 C.2.1 dX4_reckon_42 rfl (lv_at hl 1 rfl) ?_
      obtain ⟨v_3, hv_3, hf⟩ := bnd hf
      refine g_ald C E hw 2 rfl (ld_some hv_3) dX4_reckon_43 ?_
      obtain ⟨S_4, hS_4, hf⟩ := bnd hf
      refine g_ast C E hw 8 rfl (sto_some hS_4).1 (ws' := (mw cI q) S_4) (by rw [← (sto_some hS_4).2]; rfl) dX4_reckon_44 (fun H locs hw => ?_)
      refine lv_iconst (v := 0) C.1 C.2.1 dX4_reckon_45 (by decide) ?_
      refine lv_istore_n (lv' := [(2, .int 0), (0, .ref (q 0)), (1, .int x1)]) C.1 C.2.1 dX4_reckon_46 rfl hl (by decide) rfl (fun ls hl => ?_)
      exact wX4_reckon_47 C E x1 (fX4_reckon_25 n) ih 100 S_4 0 hf _ _ _ hw (lv_sub hl [1, 2, 0] rfl)
def fX4_reckon_2 : Nat → St → Int32 → Option St
  | 0, _, _ => none
  | n + 1, S, x1 =>
    if (S 11 0) ≤ x1 then
      fX4_reckon_25 100 S 0
    else
      Option.bind (sto S 8 16 x1 0) fun S_1 =>
      Option.bind (some (x1 + 1)) fun x1_2 =>
      fX4_reckon_2 n S_1 x1_2
set_option maxHeartbeats 4000000 in
set_option maxRecDepth 100000 in
theorem wX4_reckon_2 {p : Program} {l : Launch} {e : Env} {s : State} {m : MethodId} {args : Array Value} {below : List Frame} {meth : Method} {c : Code} {D : va_G} {cI : ClassId} {q : Nat → Nat} (C : Ctx p s m args meth c cX4_reckon 3 RX4 none) (E : gE D cI s) {S0 : St} {S1 : St} : ∀ (n : Nat) (S : St) (x1 : Int32), fX4_reckon_2 n S x1 = some S1 → ∀ (H : Heap) (locs : List Loc) (ls : Array Slot), gW D ((mw cI q) S0) ((mw cI q) S) s H locs → lv_has ls 3 [(0, .ref (q 0)), (1, .int x1)] → W p l e ({ frames := 1, cells := 0, slots := 0, locals := 23 } : Room) s m args below meth c H locs 0 0 (MQ below (gQv D (mw cI q) S0 (fun (u : St) => u = S1) s.heap.size) args s 0 0 (va_A ((mw cI q) S0) s.heap.size)) (F0 m 2 ls []) := by
  intro n
  induction n with
  | zero => intro S x1 hf; rw [fX4_reckon_2] at hf; cases hf
  | succ n ih =>
    intro S x1 hf H locs ls hw hl
    rw [fX4_reckon_2] at hf
    refine lv_iload_n C.1 C.2.1 dX4_reckon_2 rfl (lv_at hl 1 rfl) ?_
    refine lv_aload_n C.1 C.2.1 dX4_reckon_3 rfl (lv_at hl 0 rfl) ?_
    refine g_get C E hw inW4 0 rfl rfl 1 (by decide) kf_X4_44 rfl dX4_reckon_4 ?_
    refine lv_icmp_ge (tgt := 23) C.1 C.2.1 dX4_reckon_7 (by decide) (fun hc => ?_) (fun hc => ?_)
    · have hf := ift hc hf
      refine lv_iconst (v := 0) C.1 C.2.1 dX4_reckon_23 (by decide) ?_
      refine lv_istore_n (lv' := [(1, .int 0), (0, .ref (q 0))]) C.1 C.2.1 dX4_reckon_24 rfl hl (by decide) rfl (fun ls hl => ?_)
      exact wX4_reckon_25 C E 100 S 0 hf _ _ _ hw (lv_sub hl [1, 0] rfl)
    · have hf := iff_ hc hf
      refine lv_aload_n C.1 C.2.1 dX4_reckon_10 rfl (lv_at hl 0 rfl) ?_
      refine g_get C E hw inW4 0 rfl rfl 13 (by decide) kf_X4_34 rfl dX4_reckon_11 ?_
      refine lv_iload_n C.1 C.2.1 dX4_reckon_14 rfl (lv_at hl 1 rfl) ?_
      refine lv_iconst (v := 0) C.1 C.2.1 dX4_reckon_15 (by decide) ?_
      obtain ⟨S_1, hS_1, hf⟩ := bnd hf
      refine g_ast C E hw 9 rfl (sto_some hS_1).1 (ws' := (mw cI q) S_1) (by rw [← (sto_some hS_1).2]; rfl) dX4_reckon_16 (fun H locs hw => ?_)
      obtain ⟨x1_2, hx1_2, hf⟩ := bnd hf
      refine lv_iinc (v := x1_2) (lv' := [(1, .int x1_2), (0, .ref (q 0))]) C.1 C.2.1 dX4_reckon_17 hl (k := 1) rfl (inc1 hx1_2) (by decide) rfl (fun ls hl => ?_)
      refine lv_goto (tgt := 2) C.1 C.2.1 dX4_reckon_20 (by decide) ?_
      exact ih S_1 x1_2 hf _ _ _ hw (lv_sub hl [1, 0] rfl)
def fX4_reckon (S : St) : Option St :=
  fX4_reckon_2 100 S 0
set_option maxHeartbeats 4000000 in
set_option maxRecDepth 100000 in
theorem ctX4_reckon (l : Launch) {D : va_G} {cI : ClassId} {q : Nat → Nat} (S : St) (sz : Nat) {S1 : St} (hf : fX4_reckon S = some S1) : Met l yX4_reckon (Cond.code yX4_reckon cX4_reckon 3 none :: XALL) ({ frames := 1, cells := 0, slots := 0, locals := 23 } : Room) (va_Pc [.ref (q 0)] (gPre D cI ((mw cI q) S) sz)) (gQv D (mw cI q) S (fun (u : St) => u = S1) sz) 0 0 (va_A ((mw cI q) S) sz) := by
  unfold fX4_reckon at hf
  refine Met.ofW (cc := cX4_reckon) (maxL := 3) (ret := none) (by decide) rfl ?_
  intro p e s m args below meth c s₁ B hml hv
  obtain ⟨rfl, hg⟩ := hv
  have C : Ctx p s m _ meth c cX4_reckon 3 RX4 none := Ctx.of B hml rfl
  obtain ⟨E, hw, hsz⟩ := g_start hg
  subst hsz
  have hl := lv_entry ([.ref (q 0)]) (n := 3) (Nat.le_of_ble_eq_true rfl)
  rw [lg_entry_eq]
  generalize (lg_sl ([.ref (q 0)]) ++ List.replicate (3 - (lg_sl ([.ref (q 0)])).length) Slot.unset).toArray = ls at hl ⊢
  have hl : lv_has ls 3 [(0, .ref (q 0))] := hl
  refine lv_iconst (v := 0) C.1 C.2.1 dX4_reckon_0 (by decide) ?_
  refine lv_istore_n (lv' := [(1, .int 0), (0, .ref (q 0))]) C.1 C.2.1 dX4_reckon_1 rfl hl (by decide) rfl (fun ls hl => ?_)
  exact wX4_reckon_2 C E 100 S 0 hf _ _ _ hw (lv_sub hl [1, 0] rfl)
/-! DreamLedgerModel.addTag -/
def fX4_addTag (S : St) : Option (Int32 × St) :=
  Option.bind (some (up S 10 0 0)) fun S_1 =>
  if (S_1 11 0) = 16 then
    Option.bind (fX4_fail S_1 1) fun u_6 => pr u_6 fun v_4 S_5 =>
    some (v_4, S_5)
  else
    Option.bind (sto S_1 0 16 (S_1 11 0) (-1)) fun S_2 =>
    Option.bind (some (up S_2 11 0 ((S_2 11 0) + 1))) fun S_3 =>
    some (((S_3 11 0) - 1), S_3)
set_option maxHeartbeats 4000000 in
set_option maxRecDepth 100000 in
theorem ctX4_addTag (l : Launch) {D : va_G} {cI : ClassId} {q : Nat → Nat} (S : St) (sz : Nat) {r1 : Int32} {S1 : St} (hf : fX4_addTag S = some (r1, S1)) : Met l yX4_addTag (Cond.code yX4_addTag cX4_addTag 1 (some .int) :: XALL) ({ frames := 1, cells := 0, slots := 0, locals := 21 } : Room) (va_Pc [.ref (q 0)] (gPre D cI ((mw cI q) S) sz)) (gQi D (mw cI q) S (fun (r : Int32) (u : St) => r = r1 ∧ u = S1) sz) 0 0 (va_A ((mw cI q) S) sz) := by
  unfold fX4_addTag at hf
  refine Met.ofW (cc := cX4_addTag) (maxL := 1) (ret := (some .int)) (by decide) rfl ?_
  intro p e s m args below meth c s₁ B hml hv
  obtain ⟨rfl, hg⟩ := hv
  have C : Ctx p s m _ meth c cX4_addTag 1 RX4 (some .int) := Ctx.of B hml rfl
  obtain ⟨E, hw, hsz⟩ := g_start hg
  subst hsz
  have hl := lv_entry ([.ref (q 0)]) (n := 1) (Nat.le_of_ble_eq_true rfl)
  rw [lg_entry_eq]
  generalize (lg_sl ([.ref (q 0)]) ++ List.replicate (1 - (lg_sl ([.ref (q 0)])).length) Slot.unset).toArray = ls at hl ⊢
  have hl : lv_has ls 1 [(0, .ref (q 0))] := hl
  refine lv_aload_n C.1 C.2.1 dX4_addTag_0 rfl (lv_at hl 0 rfl) ?_
  refine lv_iconst (v := 0) C.1 C.2.1 dX4_addTag_1 (by decide) ?_
  obtain ⟨S_1, hS_1, hf⟩ := bnd hf
  refine g_put C E hw inW4 tyX4 tyX4_ok nmX4 0 rfl rfl 0 (by decide) kf_X4_40 rfl (by decide +kernel) (Nat.le_of_ble_eq_true rfl) (ws' := (mw cI q) S_1) (by rw [← Option.some.inj hS_1]; rfl) dX4_addTag_2 (fun H locs hw => ?_)
  refine lv_aload_n C.1 C.2.1 dX4_addTag_5 rfl (lv_at hl 0 rfl) ?_
  refine g_get C E hw inW4 0 rfl rfl 1 (by decide) kf_X4_44 rfl dX4_addTag_6 ?_
  refine lv_bipush (v := 16) C.1 C.2.1 dX4_addTag_9 (by decide) ?_
  refine lv_icmp_ne (tgt := 20) C.1 C.2.1 dX4_addTag_11 (by decide) (fun hc => ?_) (fun hc => ?_)
  · have hf := iff_ hc hf
    refine lv_aload_n C.1 C.2.1 dX4_addTag_20 rfl (lv_at hl 0 rfl) ?_
    refine g_get C E hw inW4 0 rfl rfl 5 (by decide) kf_X4_9 rfl dX4_addTag_21 ?_
    refine lv_aload_n C.1 C.2.1 dX4_addTag_24 rfl (lv_at hl 0 rfl) ?_
    refine g_get C E hw inW4 0 rfl rfl 1 (by decide) kf_X4_44 rfl dX4_addTag_25 ?_
    refine lv_iconst (v := (-1)) C.1 C.2.1 dX4_addTag_28 (by decide) ?_
    obtain ⟨S_2, hS_2, hf⟩ := bnd hf
    refine g_ast C E hw 1 rfl (sto_some hS_2).1 (ws' := (mw cI q) S_2) (by rw [← (sto_some hS_2).2]; rfl) dX4_addTag_29 (fun H locs hw => ?_)
    refine lv_aload_n C.1 C.2.1 dX4_addTag_30 rfl (lv_at hl 0 rfl) ?_
    refine lv_dup C.1 C.2.1 dX4_addTag_31 rfl ?_
    refine g_get C E hw inW4 0 rfl rfl 1 (by decide) kf_X4_44 rfl dX4_addTag_32 ?_
    refine lv_iconst (v := 1) C.1 C.2.1 dX4_addTag_35 (by decide) ?_
    refine lv_iadd C.1 C.2.1 dX4_addTag_36 ?_
    obtain ⟨S_3, hS_3, hf⟩ := bnd hf
    refine g_put C E hw inW4 tyX4 tyX4_ok nmX4 0 rfl rfl 1 (by decide) kf_X4_44 rfl (by decide +kernel) (Nat.le_of_ble_eq_true rfl) (ws' := (mw cI q) S_3) (by rw [← Option.some.inj hS_3]; rfl) dX4_addTag_37 (fun H locs hw => ?_)
    refine lv_aload_n C.1 C.2.1 dX4_addTag_40 rfl (lv_at hl 0 rfl) ?_
    refine g_get C E hw inW4 0 rfl rfl 1 (by decide) kf_X4_44 rfl dX4_addTag_41 ?_
    refine lv_iconst (v := 1) C.1 C.2.1 dX4_addTag_44 (by decide) ?_
    refine lv_isub C.1 C.2.1 dX4_addTag_45 ?_
    exact g_iret C hw (Nat.le_of_ble_eq_true rfl) (Nat.le_of_ble_eq_true rfl) ⟨congrArg Prod.fst (Option.some.inj hf), congrArg Prod.snd (Option.some.inj hf)⟩ dX4_addTag_46
  · have hf := ift hc hf
    refine lv_aload_n C.1 C.2.1 dX4_addTag_14 rfl (lv_at hl 0 rfl) ?_
    refine lv_iconst (v := 1) C.1 C.2.1 dX4_addTag_15 (by decide) ?_
    obtain ⟨⟨v_4, S_5⟩, hu_6, hf⟩ := bnd hf
    have hf := pr_r hf
    refine g_cie (wf := (mw cI q)) (S := S_1) (rest := []) mw_adr hw (g_runV (rm := ({ frames := 0, cells := 0, slots := 0, locals := 0 } : Room)) (As := [.int 1]) (rest := []) C E hw F_X4_fail (ctX4_fail l (cI := cI) (D := D) (q := q) S_1 1 _ hu_6) km_X4_68 0 rfl rfl rfl hl.1 rfl (Nat.le_of_ble_eq_true rfl) ⟨(Nat.le_of_ble_eq_true rfl), (Nat.le_of_ble_eq_true rfl)⟩ ⟨(Nat.le_of_ble_eq_true rfl), (Nat.le_of_ble_eq_true rfl)⟩ dX4_addTag_16) (fun H locs hw => ?_)
    exact g_iret C hw (Nat.le_of_ble_eq_true rfl) (Nat.le_of_ble_eq_true rfl) ⟨congrArg Prod.fst (Option.some.inj hf), congrArg Prod.snd (Option.some.inj hf)⟩ dX4_addTag_19
/-! DreamLedgerModel.canPut -/
def fX4_canPut_44 (S : St) (t1 : Int32) : Option (Int32 × St) :=
  Option.bind (some (up S 10 0 t1)) fun S_4 =>
  if (S_4 10 0) = 0 then
    some (1, S_4)
  else
    some (0, S_4)
set_option maxHeartbeats 4000000 in
set_option maxRecDepth 100000 in
theorem wX4_canPut_44 {p : Program} {l : Launch} {e : Env} {s : State} {m : MethodId} {args : Array Value} {below : List Frame} {meth : Method} {c : Code} {D : va_G} {cI : ClassId} {q : Nat → Nat} (C : Ctx p s m args meth c cX4_canPut 3 RX4 (some .boolean)) (E : gE D cI s) {S0 : St} {r1 : Int32} {S1 : St} : ∀ (S : St) (t1 : Int32), fX4_canPut_44 S t1 = some (r1, S1) → ∀ (H : Heap) (locs : List Loc) (ls : Array Slot), gW D ((mw cI q) S0) ((mw cI q) S) s H locs → lv_has ls 3 [(0, .ref (q 0))] → W p l e ({ frames := 2, cells := 0, slots := 0, locals := 45 } : Room) s m args below meth c H locs 0 0 (MQ below (gQi D (mw cI q) S0 (fun (r : Int32) (u : St) => r = r1 ∧ u = S1) s.heap.size) args s 0 0 (va_A ((mw cI q) S0) s.heap.size)) (F0 m 44 ls [.int t1, .ref (q 0)]) := by
  intro S t1 hf H locs ls hw hl
  unfold fX4_canPut_44 at hf
  obtain ⟨S_4, hS_4, hf⟩ := bnd hf
  refine g_put C E hw inW4 tyX4 tyX4_ok nmX4 0 rfl rfl 0 (by decide) kf_X4_40 rfl (by decide +kernel) (Nat.le_of_ble_eq_true rfl) (ws' := (mw cI q) S_4) (by rw [← Option.some.inj hS_4]; rfl) dX4_canPut_44 (fun H locs hw => ?_)
  refine lv_aload_n C.1 C.2.1 dX4_canPut_47 rfl (lv_at hl 0 rfl) ?_
  refine g_get C E hw inW4 0 rfl rfl 0 (by decide) kf_X4_40 rfl dX4_canPut_48 ?_
  refine lv_if_ne (tgt := 58) C.1 C.2.1 dX4_canPut_51 (by decide) (fun hc => ?_) (fun hc => ?_)
  · have hf := iff_ hc hf
    refine lv_iconst (v := 0) C.1 C.2.1 dX4_canPut_58 (by decide) ?_
    exact g_zret C hw (Nat.le_of_ble_eq_true rfl) (Nat.le_of_ble_eq_true rfl) (Or.inl rfl) ⟨congrArg Prod.fst (Option.some.inj hf), congrArg Prod.snd (Option.some.inj hf)⟩ dX4_canPut_59
  · have hf := ift hc hf
    refine lv_iconst (v := 1) C.1 C.2.1 dX4_canPut_54 (by decide) ?_
    refine lv_goto (tgt := 59) C.1 C.2.1 dX4_canPut_55 (by decide) ?_
    exact g_zret C hw (Nat.le_of_ble_eq_true rfl) (Nat.le_of_ble_eq_true rfl) (Or.inr rfl) ⟨congrArg Prod.fst (Option.some.inj hf), congrArg Prod.snd (Option.some.inj hf)⟩ dX4_canPut_59
def fX4_canPut_17 (S : St) : Option (Int32 × St) :=
  fX4_canPut_44 S 1
set_option maxHeartbeats 4000000 in
set_option maxRecDepth 100000 in
theorem wX4_canPut_17 {p : Program} {l : Launch} {e : Env} {s : State} {m : MethodId} {args : Array Value} {below : List Frame} {meth : Method} {c : Code} {D : va_G} {cI : ClassId} {q : Nat → Nat} (C : Ctx p s m args meth c cX4_canPut 3 RX4 (some .boolean)) (E : gE D cI s) {S0 : St} {r1 : Int32} {S1 : St} : ∀ (S : St), fX4_canPut_17 S = some (r1, S1) → ∀ (H : Heap) (locs : List Loc) (ls : Array Slot), gW D ((mw cI q) S0) ((mw cI q) S) s H locs → lv_has ls 3 [(0, .ref (q 0))] → W p l e ({ frames := 2, cells := 0, slots := 0, locals := 45 } : Room) s m args below meth c H locs 0 0 (MQ below (gQi D (mw cI q) S0 (fun (r : Int32) (u : St) => r = r1 ∧ u = S1) s.heap.size) args s 0 0 (va_A ((mw cI q) S0) s.heap.size)) (F0 m 17 ls [.ref (q 0)]) := by
  intro S hf H locs ls hw hl
  unfold fX4_canPut_17 at hf
  refine lv_iconst (v := 1) C.1 C.2.1 dX4_canPut_17 (by decide) ?_
  refine lv_goto (tgt := 44) C.1 C.2.1 dX4_canPut_18 (by decide) ?_
  exact wX4_canPut_44 C E S 1 hf _ _ _ hw (lv_sub hl [0] rfl)
def fX4_canPut (S : St) (x1 : Int32) (x2 : Int32) : Option (Int32 × St) :=
  Option.bind (fX4_isTag S x1) fun v_1 =>
  if v_1 = 0 then
    fX4_canPut_17 S
  else
    Option.bind (fX4_isTag S x2) fun v_2 =>
    if v_2 = 0 then
      fX4_canPut_17 S
    else
      if x1 = x2 then
        fX4_canPut_44 S 2
      else
        Option.bind (fX4_below S x2 x1) fun v_3 =>
        if v_3 = 0 then
          fX4_canPut_44 S 0
        else
          fX4_canPut_44 S 3
set_option maxHeartbeats 4000000 in
set_option maxRecDepth 100000 in
theorem ctX4_canPut (l : Launch) {D : va_G} {cI : ClassId} {q : Nat → Nat} (S : St) (x1 : Int32) (x2 : Int32) (sz : Nat) {r1 : Int32} {S1 : St} (hf : fX4_canPut S x1 x2 = some (r1, S1)) : Met l yX4_canPut (Cond.code yX4_canPut cX4_canPut 3 (some .boolean) :: XALL) ({ frames := 2, cells := 0, slots := 0, locals := 45 } : Room) (va_Pc [.ref (q 0), .int x1, .int x2] (gPre D cI ((mw cI q) S) sz)) (gQi D (mw cI q) S (fun (r : Int32) (u : St) => r = r1 ∧ u = S1) sz) 0 0 (va_A ((mw cI q) S) sz) := by
  unfold fX4_canPut at hf
  refine Met.ofW (cc := cX4_canPut) (maxL := 3) (ret := (some .boolean)) (by decide) rfl ?_
  intro p e s m args below meth c s₁ B hml hv
  obtain ⟨rfl, hg⟩ := hv
  have C : Ctx p s m _ meth c cX4_canPut 3 RX4 (some .boolean) := Ctx.of B hml rfl
  obtain ⟨E, hw, hsz⟩ := g_start hg
  subst hsz
  have hl := lv_entry ([.ref (q 0), .int x1, .int x2]) (n := 3) (Nat.le_of_ble_eq_true rfl)
  rw [lg_entry_eq]
  generalize (lg_sl ([.ref (q 0), .int x1, .int x2]) ++ List.replicate (3 - (lg_sl ([.ref (q 0), .int x1, .int x2])).length) Slot.unset).toArray = ls at hl ⊢
  have hl : lv_has ls 3 [(0, .ref (q 0)), (1, .int x1), (2, .int x2)] := hl
  refine lv_aload_n C.1 C.2.1 dX4_canPut_0 rfl (lv_at hl 0 rfl) ?_
  refine lv_aload_n C.1 C.2.1 dX4_canPut_1 rfl (lv_at hl 0 rfl) ?_
  refine lv_iload_n C.1 C.2.1 dX4_canPut_2 rfl (lv_at hl 1 rfl) ?_
  obtain ⟨v_1, hv_1, hf⟩ := bnd hf
  refine g_cie (wf := (mw cI q)) (S := S) (rest := [.ref (q 0)]) mw_adr hw (g_runV (rm := ({ frames := 1, cells := 0, slots := 0, locals := 22 } : Room)) (As := [.int x1]) (rest := [.ref (q 0)]) C E hw F_X4_isTag (ctX4_isTag l (cI := cI) (D := D) (q := q) S x1 _ hv_1) km_X4_71 0 rfl rfl rfl hl.1 rfl (Nat.le_of_ble_eq_true rfl) ⟨(Nat.le_of_ble_eq_true rfl), (Nat.le_of_ble_eq_true rfl)⟩ ⟨(Nat.le_of_ble_eq_true rfl), (Nat.le_of_ble_eq_true rfl)⟩ dX4_canPut_3) (fun H locs hw => ?_)
  refine lv_if_eq (tgt := 17) C.1 C.2.1 dX4_canPut_6 (by decide) (fun hc => ?_) (fun hc => ?_)
  · have hf := ift hc hf
    exact wX4_canPut_17 C E S hf _ _ _ hw (lv_sub hl [0] rfl)
  · have hf := iff_ hc hf
    refine lv_aload_n C.1 C.2.1 dX4_canPut_9 rfl (lv_at hl 0 rfl) ?_
    refine lv_iload_n C.1 C.2.1 dX4_canPut_10 rfl (lv_at hl 2 rfl) ?_
    obtain ⟨v_2, hv_2, hf⟩ := bnd hf
    refine g_cie (wf := (mw cI q)) (S := S) (rest := [.ref (q 0)]) mw_adr hw (g_runV (rm := ({ frames := 1, cells := 0, slots := 0, locals := 22 } : Room)) (As := [.int x2]) (rest := [.ref (q 0)]) C E hw F_X4_isTag (ctX4_isTag l (cI := cI) (D := D) (q := q) S x2 _ hv_2) km_X4_71 0 rfl rfl rfl hl.1 rfl (Nat.le_of_ble_eq_true rfl) ⟨(Nat.le_of_ble_eq_true rfl), (Nat.le_of_ble_eq_true rfl)⟩ ⟨(Nat.le_of_ble_eq_true rfl), (Nat.le_of_ble_eq_true rfl)⟩ dX4_canPut_11) (fun H locs hw => ?_)
    refine lv_if_ne (tgt := 21) C.1 C.2.1 dX4_canPut_14 (by decide) (fun hc => ?_) (fun hc => ?_)
    · have hf := iff_ hc hf
      refine lv_iload_n C.1 C.2.1 dX4_canPut_21 rfl (lv_at hl 1 rfl) ?_
      refine lv_iload_n C.1 C.2.1 dX4_canPut_22 rfl (lv_at hl 2 rfl) ?_
      refine lv_icmp_ne (tgt := 30) C.1 C.2.1 dX4_canPut_23 (by decide) (fun hc => ?_) (fun hc => ?_)
      · have hf := iff_ hc hf
        refine lv_aload_n C.1 C.2.1 dX4_canPut_30 rfl (lv_at hl 0 rfl) ?_
        refine lv_iload_n C.1 C.2.1 dX4_canPut_31 rfl (lv_at hl 2 rfl) ?_
        refine lv_iload_n C.1 C.2.1 dX4_canPut_32 rfl (lv_at hl 1 rfl) ?_
        obtain ⟨v_3, hv_3, hf⟩ := bnd hf
        refine g_cie (wf := (mw cI q)) (S := S) (rest := [.ref (q 0)]) mw_adr hw (g_runV (rm := ({ frames := 1, cells := 0, slots := 0, locals := 23 } : Room)) (As := [.int x2, .int x1]) (rest := [.ref (q 0)]) C E hw F_X4_below (ctX4_below l (cI := cI) (D := D) (q := q) S x2 x1 _ hv_3) km_X4_65 0 rfl rfl rfl hl.1 rfl (Nat.le_of_ble_eq_true rfl) ⟨(Nat.le_of_ble_eq_true rfl), (Nat.le_of_ble_eq_true rfl)⟩ ⟨(Nat.le_of_ble_eq_true rfl), (Nat.le_of_ble_eq_true rfl)⟩ dX4_canPut_33) (fun H locs hw => ?_)
        refine lv_if_eq (tgt := 43) C.1 C.2.1 dX4_canPut_36 (by decide) (fun hc => ?_) (fun hc => ?_)
        · have hf := ift hc hf
          refine lv_iconst (v := 0) C.1 C.2.1 dX4_canPut_43 (by decide) ?_
          exact wX4_canPut_44 C E S 0 hf _ _ _ hw (lv_sub hl [0] rfl)
        · have hf := iff_ hc hf
          refine lv_iconst (v := 3) C.1 C.2.1 dX4_canPut_39 (by decide) ?_
          refine lv_goto (tgt := 44) C.1 C.2.1 dX4_canPut_40 (by decide) ?_
          exact wX4_canPut_44 C E S 3 hf _ _ _ hw (lv_sub hl [0] rfl)
      · have hf := ift hc hf
        refine lv_iconst (v := 2) C.1 C.2.1 dX4_canPut_26 (by decide) ?_
        refine lv_goto (tgt := 44) C.1 C.2.1 dX4_canPut_27 (by decide) ?_
        exact wX4_canPut_44 C E S 2 hf _ _ _ hw (lv_sub hl [0] rfl)
    · have hf := ift hc hf
      exact wX4_canPut_17 C E S hf _ _ _ hw (lv_sub hl [0] rfl)
/-! DreamLedgerModel.putUnder -/
def fX4_putUnder (S : St) (x1 : Int32) (x2 : Int32) : Option (Int32 × St) :=
  Option.bind (fX4_canPut S x1 x2) fun u_3 => pr u_3 fun v_1 S_2 =>
  if v_1 = 0 then
    some (0, S_2)
  else
    Option.bind (sto S_2 0 16 x1 x2) fun S_4 =>
    Option.bind (fX4_above S_4 x1) fun v_5 =>
    Option.bind (fX4_many v_5) fun v_6 =>
    some (v_6, S_4)
set_option maxHeartbeats 4000000 in
set_option maxRecDepth 100000 in
theorem ctX4_putUnder (l : Launch) {D : va_G} {cI : ClassId} {q : Nat → Nat} (S : St) (x1 : Int32) (x2 : Int32) (sz : Nat) {r1 : Int32} {S1 : St} (hf : fX4_putUnder S x1 x2 = some (r1, S1)) : Met l yX4_putUnder (Cond.code yX4_putUnder cX4_putUnder 3 (some .int) :: XALL) ({ frames := 3, cells := 0, slots := 0, locals := 67 } : Room) (va_Pc [.ref (q 0), .int x1, .int x2] (gPre D cI ((mw cI q) S) sz)) (gQi D (mw cI q) S (fun (r : Int32) (u : St) => r = r1 ∧ u = S1) sz) 0 0 (va_A ((mw cI q) S) sz) := by
  unfold fX4_putUnder at hf
  refine Met.ofW (cc := cX4_putUnder) (maxL := 3) (ret := (some .int)) (by decide) rfl ?_
  intro p e s m args below meth c s₁ B hml hv
  obtain ⟨rfl, hg⟩ := hv
  have C : Ctx p s m _ meth c cX4_putUnder 3 RX4 (some .int) := Ctx.of B hml rfl
  obtain ⟨E, hw, hsz⟩ := g_start hg
  subst hsz
  have hl := lv_entry ([.ref (q 0), .int x1, .int x2]) (n := 3) (Nat.le_of_ble_eq_true rfl)
  rw [lg_entry_eq]
  generalize (lg_sl ([.ref (q 0), .int x1, .int x2]) ++ List.replicate (3 - (lg_sl ([.ref (q 0), .int x1, .int x2])).length) Slot.unset).toArray = ls at hl ⊢
  have hl : lv_has ls 3 [(0, .ref (q 0)), (1, .int x1), (2, .int x2)] := hl
  refine lv_aload_n C.1 C.2.1 dX4_putUnder_0 rfl (lv_at hl 0 rfl) ?_
  refine lv_iload_n C.1 C.2.1 dX4_putUnder_1 rfl (lv_at hl 1 rfl) ?_
  refine lv_iload_n C.1 C.2.1 dX4_putUnder_2 rfl (lv_at hl 2 rfl) ?_
  obtain ⟨⟨v_1, S_2⟩, hu_3, hf⟩ := bnd hf
  have hf := pr_r hf
  refine g_cie (wf := (mw cI q)) (S := S) (rest := []) mw_adr hw (g_runV (rm := ({ frames := 2, cells := 0, slots := 0, locals := 45 } : Room)) (As := [.int x1, .int x2]) (rest := []) C E hw F_X4_canPut (ctX4_canPut l (cI := cI) (D := D) (q := q) S x1 x2 _ hu_3) km_X4_75 0 rfl rfl rfl hl.1 rfl (Nat.le_of_ble_eq_true rfl) ⟨(Nat.le_of_ble_eq_true rfl), (Nat.le_of_ble_eq_true rfl)⟩ ⟨(Nat.le_of_ble_eq_true rfl), (Nat.le_of_ble_eq_true rfl)⟩ dX4_putUnder_3) (fun H locs hw => ?_)
  refine lv_if_ne (tgt := 11) C.1 C.2.1 dX4_putUnder_6 (by decide) (fun hc => ?_) (fun hc => ?_)
  · have hf := iff_ hc hf
    refine lv_aload_n C.1 C.2.1 dX4_putUnder_11 rfl (lv_at hl 0 rfl) ?_
    refine g_get C E hw inW4 0 rfl rfl 5 (by decide) kf_X4_9 rfl dX4_putUnder_12 ?_
    refine lv_iload_n C.1 C.2.1 dX4_putUnder_15 rfl (lv_at hl 1 rfl) ?_
    refine lv_iload_n C.1 C.2.1 dX4_putUnder_16 rfl (lv_at hl 2 rfl) ?_
    obtain ⟨S_4, hS_4, hf⟩ := bnd hf
    refine g_ast C E hw 1 rfl (sto_some hS_4).1 (ws' := (mw cI q) S_4) (by rw [← (sto_some hS_4).2]; rfl) dX4_putUnder_17 (fun H locs hw => ?_)
    refine lv_aload_n C.1 C.2.1 dX4_putUnder_18 rfl (lv_at hl 0 rfl) ?_
    refine lv_iload_n C.1 C.2.1 dX4_putUnder_19 rfl (lv_at hl 1 rfl) ?_
    obtain ⟨v_5, hv_5, hf⟩ := bnd hf
    refine g_cie (wf := (mw cI q)) (S := S_4) (rest := []) mw_adr hw (g_runV (rm := ({ frames := 0, cells := 0, slots := 0, locals := 0 } : Room)) (As := [.int x1]) (rest := []) C E hw F_X4_above (ctX4_above l (cI := cI) (D := D) (q := q) S_4 x1 _ hv_5) km_X4_57 0 rfl rfl rfl hl.1 rfl (Nat.le_of_ble_eq_true rfl) ⟨(Nat.le_of_ble_eq_true rfl), (Nat.le_of_ble_eq_true rfl)⟩ ⟨(Nat.le_of_ble_eq_true rfl), (Nat.le_of_ble_eq_true rfl)⟩ dX4_putUnder_20) (fun H locs hw => ?_)
    obtain ⟨v_6, hv_6, hf⟩ := bnd hf
    refine g_ci0e (rest := []) hw (g_run0 (rm := ({ frames := 0, cells := 0, slots := 0, locals := 0 } : Room)) (As := [.int v_5]) (rest := []) C F_X4_many (ctX4_many l v_5 hv_6) km_X4_78 rfl hl.1 rfl (Nat.le_of_ble_eq_true rfl) ⟨(Nat.le_of_ble_eq_true rfl), (Nat.le_of_ble_eq_true rfl)⟩ ⟨(Nat.le_of_ble_eq_true rfl), (Nat.le_of_ble_eq_true rfl)⟩ dX4_putUnder_23) (fun H locs hw => ?_)
    exact g_iret C hw (Nat.le_of_ble_eq_true rfl) (Nat.le_of_ble_eq_true rfl) ⟨congrArg Prod.fst (Option.some.inj hf), congrArg Prod.snd (Option.some.inj hf)⟩ dX4_putUnder_26
  · have hf := ift hc hf
    refine lv_iconst (v := 0) C.1 C.2.1 dX4_putUnder_9 (by decide) ?_
    exact g_iret C hw (Nat.le_of_ble_eq_true rfl) (Nat.le_of_ble_eq_true rfl) ⟨congrArg Prod.fst (Option.some.inj hf), congrArg Prod.snd (Option.some.inj hf)⟩ dX4_putUnder_10
/-! DreamLedgerModel.freeTag -/
def fX4_freeTag (S : St) (x1 : Int32) : Option (Int32 × St) :=
  Option.bind (some (up S 10 0 0)) fun S_1 =>
  Option.bind (fX4_isTag S_1 x1) fun v_2 =>
  if v_2 = 0 then
    Option.bind (fX4_fail S_1 1) fun u_11 => pr u_11 fun v_9 S_10 =>
    some (v_9, S_10)
  else
    Option.bind (ld S_1 0 16 x1) fun v_3 =>
    if v_3 = (-1) then
      Option.bind (fX4_fail S_1 2) fun u_8 => pr u_8 fun v_6 S_7 =>
      some (v_6, S_7)
    else
      Option.bind (ld S_1 0 16 x1) fun v_4 =>
      Option.bind (sto S_1 0 16 x1 (-1)) fun S_5 =>
      some (v_4, S_5)
set_option maxHeartbeats 4000000 in
set_option maxRecDepth 100000 in
theorem ctX4_freeTag (l : Launch) {D : va_G} {cI : ClassId} {q : Nat → Nat} (S : St) (x1 : Int32) (sz : Nat) {r1 : Int32} {S1 : St} (hf : fX4_freeTag S x1 = some (r1, S1)) : Met l yX4_freeTag (Cond.code yX4_freeTag cX4_freeTag 3 (some .int) :: XALL) ({ frames := 2, cells := 0, slots := 0, locals := 43 } : Room) (va_Pc [.ref (q 0), .int x1] (gPre D cI ((mw cI q) S) sz)) (gQi D (mw cI q) S (fun (r : Int32) (u : St) => r = r1 ∧ u = S1) sz) 0 0 (va_A ((mw cI q) S) sz) := by
  unfold fX4_freeTag at hf
  refine Met.ofW (cc := cX4_freeTag) (maxL := 3) (ret := (some .int)) (by decide) rfl ?_
  intro p e s m args below meth c s₁ B hml hv
  obtain ⟨rfl, hg⟩ := hv
  have C : Ctx p s m _ meth c cX4_freeTag 3 RX4 (some .int) := Ctx.of B hml rfl
  obtain ⟨E, hw, hsz⟩ := g_start hg
  subst hsz
  have hl := lv_entry ([.ref (q 0), .int x1]) (n := 3) (Nat.le_of_ble_eq_true rfl)
  rw [lg_entry_eq]
  generalize (lg_sl ([.ref (q 0), .int x1]) ++ List.replicate (3 - (lg_sl ([.ref (q 0), .int x1])).length) Slot.unset).toArray = ls at hl ⊢
  have hl : lv_has ls 3 [(0, .ref (q 0)), (1, .int x1)] := hl
  refine lv_aload_n C.1 C.2.1 dX4_freeTag_0 rfl (lv_at hl 0 rfl) ?_
  refine lv_iconst (v := 0) C.1 C.2.1 dX4_freeTag_1 (by decide) ?_
  obtain ⟨S_1, hS_1, hf⟩ := bnd hf
  refine g_put C E hw inW4 tyX4 tyX4_ok nmX4 0 rfl rfl 0 (by decide) kf_X4_40 rfl (by decide +kernel) (Nat.le_of_ble_eq_true rfl) (ws' := (mw cI q) S_1) (by rw [← Option.some.inj hS_1]; rfl) dX4_freeTag_2 (fun H locs hw => ?_)
  refine lv_aload_n C.1 C.2.1 dX4_freeTag_5 rfl (lv_at hl 0 rfl) ?_
  refine lv_iload_n C.1 C.2.1 dX4_freeTag_6 rfl (lv_at hl 1 rfl) ?_
  obtain ⟨v_2, hv_2, hf⟩ := bnd hf
  refine g_cie (wf := (mw cI q)) (S := S_1) (rest := []) mw_adr hw (g_runV (rm := ({ frames := 1, cells := 0, slots := 0, locals := 22 } : Room)) (As := [.int x1]) (rest := []) C E hw F_X4_isTag (ctX4_isTag l (cI := cI) (D := D) (q := q) S_1 x1 _ hv_2) km_X4_71 0 rfl rfl rfl hl.1 rfl (Nat.le_of_ble_eq_true rfl) ⟨(Nat.le_of_ble_eq_true rfl), (Nat.le_of_ble_eq_true rfl)⟩ ⟨(Nat.le_of_ble_eq_true rfl), (Nat.le_of_ble_eq_true rfl)⟩ dX4_freeTag_7) (fun H locs hw => ?_)
  refine lv_if_ne (tgt := 19) C.1 C.2.1 dX4_freeTag_10 (by decide) (fun hc => ?_) (fun hc => ?_)
  · have hf := iff_ hc hf
    refine lv_aload_n C.1 C.2.1 dX4_freeTag_19 rfl (lv_at hl 0 rfl) ?_
    refine g_get C E hw inW4 0 rfl rfl 5 (by decide) kf_X4_9 rfl dX4_freeTag_20 ?_
    refine lv_iload_n C.1 C.2.1 dX4_freeTag_23 rfl (lv_at hl 1 rfl) ?_
    obtain ⟨v_3, hv_3, hf⟩ := bnd hf
    refine g_ald C E hw 1 rfl (ld_some hv_3) dX4_freeTag_24 ?_
    refine lv_iconst (v := (-1)) C.1 C.2.1 dX4_freeTag_25 (by decide) ?_
    refine lv_icmp_ne (tgt := 35) C.1 C.2.1 dX4_freeTag_26 (by decide) (fun hc => ?_) (fun hc => ?_)
    · have hf := iff_ hc hf
      refine lv_aload_n C.1 C.2.1 dX4_freeTag_35 rfl (lv_at hl 0 rfl) ?_
      refine g_get C E hw inW4 0 rfl rfl 5 (by decide) kf_X4_9 rfl dX4_freeTag_36 ?_
      refine lv_iload_n C.1 C.2.1 dX4_freeTag_39 rfl (lv_at hl 1 rfl) ?_
      obtain ⟨v_4, hv_4, hf⟩ := bnd hf
      refine g_ald C E hw 1 rfl (ld_some hv_4) dX4_freeTag_40 ?_
      refine lv_istore_n (lv' := [(2, .int v_4), (0, .ref (q 0)), (1, .int x1)]) C.1 C.2.1 dX4_freeTag_41 rfl hl (by decide) rfl (fun ls hl => ?_)
      refine lv_aload_n C.1 C.2.1 dX4_freeTag_42 rfl (lv_at hl 1 rfl) ?_
      refine g_get C E hw inW4 0 rfl rfl 5 (by decide) kf_X4_9 rfl dX4_freeTag_43 ?_
      refine lv_iload_n C.1 C.2.1 dX4_freeTag_46 rfl (lv_at hl 2 rfl) ?_
      refine lv_iconst (v := (-1)) C.1 C.2.1 dX4_freeTag_47 (by decide) ?_
      obtain ⟨S_5, hS_5, hf⟩ := bnd hf
      refine g_ast C E hw 1 rfl (sto_some hS_5).1 (ws' := (mw cI q) S_5) (by rw [← (sto_some hS_5).2]; rfl) dX4_freeTag_48 (fun H locs hw => ?_)
      refine lv_iload_n C.1 C.2.1 dX4_freeTag_49 rfl (lv_at hl 0 rfl) ?_
      exact g_iret C hw (Nat.le_of_ble_eq_true rfl) (Nat.le_of_ble_eq_true rfl) ⟨congrArg Prod.fst (Option.some.inj hf), congrArg Prod.snd (Option.some.inj hf)⟩ dX4_freeTag_50
    · have hf := ift hc hf
      refine lv_aload_n C.1 C.2.1 dX4_freeTag_29 rfl (lv_at hl 0 rfl) ?_
      refine lv_iconst (v := 2) C.1 C.2.1 dX4_freeTag_30 (by decide) ?_
      obtain ⟨⟨v_6, S_7⟩, hu_8, hf⟩ := bnd hf
      have hf := pr_r hf
      refine g_cie (wf := (mw cI q)) (S := S_1) (rest := []) mw_adr hw (g_runV (rm := ({ frames := 0, cells := 0, slots := 0, locals := 0 } : Room)) (As := [.int 2]) (rest := []) C E hw F_X4_fail (ctX4_fail l (cI := cI) (D := D) (q := q) S_1 2 _ hu_8) km_X4_68 0 rfl rfl rfl hl.1 rfl (Nat.le_of_ble_eq_true rfl) ⟨(Nat.le_of_ble_eq_true rfl), (Nat.le_of_ble_eq_true rfl)⟩ ⟨(Nat.le_of_ble_eq_true rfl), (Nat.le_of_ble_eq_true rfl)⟩ dX4_freeTag_31) (fun H locs hw => ?_)
      exact g_iret C hw (Nat.le_of_ble_eq_true rfl) (Nat.le_of_ble_eq_true rfl) ⟨congrArg Prod.fst (Option.some.inj hf), congrArg Prod.snd (Option.some.inj hf)⟩ dX4_freeTag_34
  · have hf := ift hc hf
    refine lv_aload_n C.1 C.2.1 dX4_freeTag_13 rfl (lv_at hl 0 rfl) ?_
    refine lv_iconst (v := 1) C.1 C.2.1 dX4_freeTag_14 (by decide) ?_
    obtain ⟨⟨v_9, S_10⟩, hu_11, hf⟩ := bnd hf
    have hf := pr_r hf
    refine g_cie (wf := (mw cI q)) (S := S_1) (rest := []) mw_adr hw (g_runV (rm := ({ frames := 0, cells := 0, slots := 0, locals := 0 } : Room)) (As := [.int 1]) (rest := []) C E hw F_X4_fail (ctX4_fail l (cI := cI) (D := D) (q := q) S_1 1 _ hu_11) km_X4_68 0 rfl rfl rfl hl.1 rfl (Nat.le_of_ble_eq_true rfl) ⟨(Nat.le_of_ble_eq_true rfl), (Nat.le_of_ble_eq_true rfl)⟩ ⟨(Nat.le_of_ble_eq_true rfl), (Nat.le_of_ble_eq_true rfl)⟩ dX4_freeTag_15) (fun H locs hw => ?_)
    exact g_iret C hw (Nat.le_of_ble_eq_true rfl) (Nat.le_of_ble_eq_true rfl) ⟨congrArg Prod.fst (Option.some.inj hf), congrArg Prod.snd (Option.some.inj hf)⟩ dX4_freeTag_18
/-! DreamLedgerModel.addDream -/
def fX4_addDream (S : St) (x1 : Int32) (x2 : Int32) : Option (Int32 × St) :=
  Option.bind (some (up S 10 0 0)) fun S_1 =>
  Option.bind (fX4_isTag S_1 x1) fun v_2 =>
  if v_2 = 0 then
    Option.bind (fX4_fail S_1 1) fun u_16 => pr u_16 fun v_14 S_15 =>
    some (v_14, S_15)
  else
    Option.bind (fX4_isIn x2 1 9) fun v_3 =>
    if v_3 = 0 then
      Option.bind (fX4_fail S_1 2) fun u_13 => pr u_13 fun v_11 S_12 =>
      some (v_11, S_12)
    else
      if (S_1 12 0) = 24 then
        Option.bind (fX4_fail S_1 3) fun u_10 => pr u_10 fun v_8 S_9 =>
        some (v_8, S_9)
      else
        Option.bind (sto S_1 1 24 (S_1 12 0) ((1 : Int32) <<< (x1 &&& 31))) fun S_4 =>
        Option.bind (sto S_4 2 24 (S_4 12 0) x2) fun S_5 =>
        Option.bind (sto S_5 3 24 (S_5 12 0) (S_5 14 0)) fun S_6 =>
        Option.bind (some (up S_6 12 0 ((S_6 12 0) + 1))) fun S_7 =>
        some (((S_7 12 0) - 1), S_7)
set_option maxHeartbeats 4000000 in
set_option maxRecDepth 100000 in
theorem ctX4_addDream (l : Launch) {D : va_G} {cI : ClassId} {q : Nat → Nat} (S : St) (x1 : Int32) (x2 : Int32) (sz : Nat) {r1 : Int32} {S1 : St} (hf : fX4_addDream S x1 x2 = some (r1, S1)) : Met l yX4_addDream (Cond.code yX4_addDream cX4_addDream 3 (some .int) :: XALL) ({ frames := 2, cells := 0, slots := 0, locals := 43 } : Room) (va_Pc [.ref (q 0), .int x1, .int x2] (gPre D cI ((mw cI q) S) sz)) (gQi D (mw cI q) S (fun (r : Int32) (u : St) => r = r1 ∧ u = S1) sz) 0 0 (va_A ((mw cI q) S) sz) := by
  unfold fX4_addDream at hf
  refine Met.ofW (cc := cX4_addDream) (maxL := 3) (ret := (some .int)) (by decide) rfl ?_
  intro p e s m args below meth c s₁ B hml hv
  obtain ⟨rfl, hg⟩ := hv
  have C : Ctx p s m _ meth c cX4_addDream 3 RX4 (some .int) := Ctx.of B hml rfl
  obtain ⟨E, hw, hsz⟩ := g_start hg
  subst hsz
  have hl := lv_entry ([.ref (q 0), .int x1, .int x2]) (n := 3) (Nat.le_of_ble_eq_true rfl)
  rw [lg_entry_eq]
  generalize (lg_sl ([.ref (q 0), .int x1, .int x2]) ++ List.replicate (3 - (lg_sl ([.ref (q 0), .int x1, .int x2])).length) Slot.unset).toArray = ls at hl ⊢
  have hl : lv_has ls 3 [(0, .ref (q 0)), (1, .int x1), (2, .int x2)] := hl
  refine lv_aload_n C.1 C.2.1 dX4_addDream_0 rfl (lv_at hl 0 rfl) ?_
  refine lv_iconst (v := 0) C.1 C.2.1 dX4_addDream_1 (by decide) ?_
  obtain ⟨S_1, hS_1, hf⟩ := bnd hf
  refine g_put C E hw inW4 tyX4 tyX4_ok nmX4 0 rfl rfl 0 (by decide) kf_X4_40 rfl (by decide +kernel) (Nat.le_of_ble_eq_true rfl) (ws' := (mw cI q) S_1) (by rw [← Option.some.inj hS_1]; rfl) dX4_addDream_2 (fun H locs hw => ?_)
  refine lv_aload_n C.1 C.2.1 dX4_addDream_5 rfl (lv_at hl 0 rfl) ?_
  refine lv_iload_n C.1 C.2.1 dX4_addDream_6 rfl (lv_at hl 1 rfl) ?_
  obtain ⟨v_2, hv_2, hf⟩ := bnd hf
  refine g_cie (wf := (mw cI q)) (S := S_1) (rest := []) mw_adr hw (g_runV (rm := ({ frames := 1, cells := 0, slots := 0, locals := 22 } : Room)) (As := [.int x1]) (rest := []) C E hw F_X4_isTag (ctX4_isTag l (cI := cI) (D := D) (q := q) S_1 x1 _ hv_2) km_X4_71 0 rfl rfl rfl hl.1 rfl (Nat.le_of_ble_eq_true rfl) ⟨(Nat.le_of_ble_eq_true rfl), (Nat.le_of_ble_eq_true rfl)⟩ ⟨(Nat.le_of_ble_eq_true rfl), (Nat.le_of_ble_eq_true rfl)⟩ dX4_addDream_7) (fun H locs hw => ?_)
  refine lv_if_ne (tgt := 19) C.1 C.2.1 dX4_addDream_10 (by decide) (fun hc => ?_) (fun hc => ?_)
  · have hf := iff_ hc hf
    refine lv_iload_n C.1 C.2.1 dX4_addDream_19 rfl (lv_at hl 2 rfl) ?_
    refine lv_iconst (v := 1) C.1 C.2.1 dX4_addDream_20 (by decide) ?_
    refine lv_bipush (v := 9) C.1 C.2.1 dX4_addDream_21 (by decide) ?_
    obtain ⟨v_3, hv_3, hf⟩ := bnd hf
    refine g_ci0e (rest := []) hw (g_run0 (rm := ({ frames := 0, cells := 0, slots := 0, locals := 0 } : Room)) (As := [.int x2, .int 1, .int 9]) (rest := []) C F_X4_isIn (ctX4_isIn l x2 1 9 hv_3) km_X4_47 rfl hl.1 rfl (Nat.le_of_ble_eq_true rfl) ⟨(Nat.le_of_ble_eq_true rfl), (Nat.le_of_ble_eq_true rfl)⟩ ⟨(Nat.le_of_ble_eq_true rfl), (Nat.le_of_ble_eq_true rfl)⟩ dX4_addDream_23) (fun H locs hw => ?_)
    refine lv_if_ne (tgt := 35) C.1 C.2.1 dX4_addDream_26 (by decide) (fun hc => ?_) (fun hc => ?_)
    · have hf := iff_ hc hf
      refine lv_aload_n C.1 C.2.1 dX4_addDream_35 rfl (lv_at hl 0 rfl) ?_
      refine g_get C E hw inW4 0 rfl rfl 2 (by decide) kf_X4_51 rfl dX4_addDream_36 ?_
      refine lv_bipush (v := 24) C.1 C.2.1 dX4_addDream_39 (by decide) ?_
      refine lv_icmp_ne (tgt := 50) C.1 C.2.1 dX4_addDream_41 (by decide) (fun hc => ?_) (fun hc => ?_)
      · have hf := iff_ hc hf
        refine lv_aload_n C.1 C.2.1 dX4_addDream_50 rfl (lv_at hl 0 rfl) ?_
        refine g_get C E hw inW4 0 rfl rfl 6 (by decide) kf_X4_13 rfl dX4_addDream_51 ?_
        refine lv_aload_n C.1 C.2.1 dX4_addDream_54 rfl (lv_at hl 0 rfl) ?_
        refine g_get C E hw inW4 0 rfl rfl 2 (by decide) kf_X4_51 rfl dX4_addDream_55 ?_
        refine lv_iconst (v := 1) C.1 C.2.1 dX4_addDream_58 (by decide) ?_
        refine lv_iload_n C.1 C.2.1 dX4_addDream_59 rfl (lv_at hl 1 rfl) ?_
        refine lv_ishl C.1 C.2.1 dX4_addDream_60 ?_
        obtain ⟨S_4, hS_4, hf⟩ := bnd hf
        refine g_ast C E hw 2 rfl (sto_some hS_4).1 (ws' := (mw cI q) S_4) (by rw [← (sto_some hS_4).2]; rfl) dX4_addDream_61 (fun H locs hw => ?_)
        refine lv_aload_n C.1 C.2.1 dX4_addDream_62 rfl (lv_at hl 0 rfl) ?_
        refine g_get C E hw inW4 0 rfl rfl 7 (by decide) kf_X4_16 rfl dX4_addDream_63 ?_
        refine lv_aload_n C.1 C.2.1 dX4_addDream_66 rfl (lv_at hl 0 rfl) ?_
        refine g_get C E hw inW4 0 rfl rfl 2 (by decide) kf_X4_51 rfl dX4_addDream_67 ?_
        refine lv_iload_n C.1 C.2.1 dX4_addDream_70 rfl (lv_at hl 2 rfl) ?_
        obtain ⟨S_5, hS_5, hf⟩ := bnd hf
        refine g_ast C E hw 3 rfl (sto_some hS_5).1 (ws' := (mw cI q) S_5) (by rw [← (sto_some hS_5).2]; rfl) dX4_addDream_71 (fun H locs hw => ?_)
        refine lv_aload_n C.1 C.2.1 dX4_addDream_72 rfl (lv_at hl 0 rfl) ?_
        refine g_get C E hw inW4 0 rfl rfl 8 (by decide) kf_X4_19 rfl dX4_addDream_73 ?_
        refine lv_aload_n C.1 C.2.1 dX4_addDream_76 rfl (lv_at hl 0 rfl) ?_
        refine g_get C E hw inW4 0 rfl rfl 2 (by decide) kf_X4_51 rfl dX4_addDream_77 ?_
        refine lv_aload_n C.1 C.2.1 dX4_addDream_80 rfl (lv_at hl 0 rfl) ?_
        refine g_get C E hw inW4 0 rfl rfl 4 (by decide) kf_X4_81 rfl dX4_addDream_81 ?_
        obtain ⟨S_6, hS_6, hf⟩ := bnd hf
        refine g_ast C E hw 4 rfl (sto_some hS_6).1 (ws' := (mw cI q) S_6) (by rw [← (sto_some hS_6).2]; rfl) dX4_addDream_84 (fun H locs hw => ?_)
        refine lv_aload_n C.1 C.2.1 dX4_addDream_85 rfl (lv_at hl 0 rfl) ?_
        refine lv_dup C.1 C.2.1 dX4_addDream_86 rfl ?_
        refine g_get C E hw inW4 0 rfl rfl 2 (by decide) kf_X4_51 rfl dX4_addDream_87 ?_
        refine lv_iconst (v := 1) C.1 C.2.1 dX4_addDream_90 (by decide) ?_
        refine lv_iadd C.1 C.2.1 dX4_addDream_91 ?_
        obtain ⟨S_7, hS_7, hf⟩ := bnd hf
        refine g_put C E hw inW4 tyX4 tyX4_ok nmX4 0 rfl rfl 2 (by decide) kf_X4_51 rfl (by decide +kernel) (Nat.le_of_ble_eq_true rfl) (ws' := (mw cI q) S_7) (by rw [← Option.some.inj hS_7]; rfl) dX4_addDream_92 (fun H locs hw => ?_)
        refine lv_aload_n C.1 C.2.1 dX4_addDream_95 rfl (lv_at hl 0 rfl) ?_
        refine g_get C E hw inW4 0 rfl rfl 2 (by decide) kf_X4_51 rfl dX4_addDream_96 ?_
        refine lv_iconst (v := 1) C.1 C.2.1 dX4_addDream_99 (by decide) ?_
        refine lv_isub C.1 C.2.1 dX4_addDream_100 ?_
        exact g_iret C hw (Nat.le_of_ble_eq_true rfl) (Nat.le_of_ble_eq_true rfl) ⟨congrArg Prod.fst (Option.some.inj hf), congrArg Prod.snd (Option.some.inj hf)⟩ dX4_addDream_101
      · have hf := ift hc hf
        refine lv_aload_n C.1 C.2.1 dX4_addDream_44 rfl (lv_at hl 0 rfl) ?_
        refine lv_iconst (v := 3) C.1 C.2.1 dX4_addDream_45 (by decide) ?_
        obtain ⟨⟨v_8, S_9⟩, hu_10, hf⟩ := bnd hf
        have hf := pr_r hf
        refine g_cie (wf := (mw cI q)) (S := S_1) (rest := []) mw_adr hw (g_runV (rm := ({ frames := 0, cells := 0, slots := 0, locals := 0 } : Room)) (As := [.int 3]) (rest := []) C E hw F_X4_fail (ctX4_fail l (cI := cI) (D := D) (q := q) S_1 3 _ hu_10) km_X4_68 0 rfl rfl rfl hl.1 rfl (Nat.le_of_ble_eq_true rfl) ⟨(Nat.le_of_ble_eq_true rfl), (Nat.le_of_ble_eq_true rfl)⟩ ⟨(Nat.le_of_ble_eq_true rfl), (Nat.le_of_ble_eq_true rfl)⟩ dX4_addDream_46) (fun H locs hw => ?_)
        exact g_iret C hw (Nat.le_of_ble_eq_true rfl) (Nat.le_of_ble_eq_true rfl) ⟨congrArg Prod.fst (Option.some.inj hf), congrArg Prod.snd (Option.some.inj hf)⟩ dX4_addDream_49
    · have hf := ift hc hf
      refine lv_aload_n C.1 C.2.1 dX4_addDream_29 rfl (lv_at hl 0 rfl) ?_
      refine lv_iconst (v := 2) C.1 C.2.1 dX4_addDream_30 (by decide) ?_
      obtain ⟨⟨v_11, S_12⟩, hu_13, hf⟩ := bnd hf
      have hf := pr_r hf
      refine g_cie (wf := (mw cI q)) (S := S_1) (rest := []) mw_adr hw (g_runV (rm := ({ frames := 0, cells := 0, slots := 0, locals := 0 } : Room)) (As := [.int 2]) (rest := []) C E hw F_X4_fail (ctX4_fail l (cI := cI) (D := D) (q := q) S_1 2 _ hu_13) km_X4_68 0 rfl rfl rfl hl.1 rfl (Nat.le_of_ble_eq_true rfl) ⟨(Nat.le_of_ble_eq_true rfl), (Nat.le_of_ble_eq_true rfl)⟩ ⟨(Nat.le_of_ble_eq_true rfl), (Nat.le_of_ble_eq_true rfl)⟩ dX4_addDream_31) (fun H locs hw => ?_)
      exact g_iret C hw (Nat.le_of_ble_eq_true rfl) (Nat.le_of_ble_eq_true rfl) ⟨congrArg Prod.fst (Option.some.inj hf), congrArg Prod.snd (Option.some.inj hf)⟩ dX4_addDream_34
  · have hf := ift hc hf
    refine lv_aload_n C.1 C.2.1 dX4_addDream_13 rfl (lv_at hl 0 rfl) ?_
    refine lv_iconst (v := 1) C.1 C.2.1 dX4_addDream_14 (by decide) ?_
    obtain ⟨⟨v_14, S_15⟩, hu_16, hf⟩ := bnd hf
    have hf := pr_r hf
    refine g_cie (wf := (mw cI q)) (S := S_1) (rest := []) mw_adr hw (g_runV (rm := ({ frames := 0, cells := 0, slots := 0, locals := 0 } : Room)) (As := [.int 1]) (rest := []) C E hw F_X4_fail (ctX4_fail l (cI := cI) (D := D) (q := q) S_1 1 _ hu_16) km_X4_68 0 rfl rfl rfl hl.1 rfl (Nat.le_of_ble_eq_true rfl) ⟨(Nat.le_of_ble_eq_true rfl), (Nat.le_of_ble_eq_true rfl)⟩ ⟨(Nat.le_of_ble_eq_true rfl), (Nat.le_of_ble_eq_true rfl)⟩ dX4_addDream_15) (fun H locs hw => ?_)
    exact g_iret C hw (Nat.le_of_ble_eq_true rfl) (Nat.le_of_ble_eq_true rfl) ⟨congrArg Prod.fst (Option.some.inj hf), congrArg Prod.snd (Option.some.inj hf)⟩ dX4_addDream_18
/-! DreamLedgerModel.changed -/
def fX4_changed (S : St) (x1 : Int32) (x2 : Int32) : Option (Int32 × St) :=
  Option.bind (ld S 1 24 x1) fun v_1 =>
  Option.bind (sto S 1 24 x1 (v_1 ^^^ ((1 : Int32) <<< (x2 &&& 31)))) fun S_2 =>
  Option.bind (ld S_2 1 24 x1) fun v_3 =>
  Option.bind (fX4_many v_3) fun v_4 =>
  some (v_4, S_2)
set_option maxHeartbeats 4000000 in
set_option maxRecDepth 100000 in
theorem ctX4_changed (l : Launch) {D : va_G} {cI : ClassId} {q : Nat → Nat} (S : St) (x1 : Int32) (x2 : Int32) (sz : Nat) {r1 : Int32} {S1 : St} (hf : fX4_changed S x1 x2 = some (r1, S1)) : Met l yX4_changed (Cond.code yX4_changed cX4_changed 3 (some .int) :: XALL) ({ frames := 1, cells := 0, slots := 0, locals := 22 } : Room) (va_Pc [.ref (q 0), .int x1, .int x2] (gPre D cI ((mw cI q) S) sz)) (gQi D (mw cI q) S (fun (r : Int32) (u : St) => r = r1 ∧ u = S1) sz) 0 0 (va_A ((mw cI q) S) sz) := by
  unfold fX4_changed at hf
  refine Met.ofW (cc := cX4_changed) (maxL := 3) (ret := (some .int)) (by decide) rfl ?_
  intro p e s m args below meth c s₁ B hml hv
  obtain ⟨rfl, hg⟩ := hv
  have C : Ctx p s m _ meth c cX4_changed 3 RX4 (some .int) := Ctx.of B hml rfl
  obtain ⟨E, hw, hsz⟩ := g_start hg
  subst hsz
  have hl := lv_entry ([.ref (q 0), .int x1, .int x2]) (n := 3) (Nat.le_of_ble_eq_true rfl)
  rw [lg_entry_eq]
  generalize (lg_sl ([.ref (q 0), .int x1, .int x2]) ++ List.replicate (3 - (lg_sl ([.ref (q 0), .int x1, .int x2])).length) Slot.unset).toArray = ls at hl ⊢
  have hl : lv_has ls 3 [(0, .ref (q 0)), (1, .int x1), (2, .int x2)] := hl
  refine lv_aload_n C.1 C.2.1 dX4_changed_0 rfl (lv_at hl 0 rfl) ?_
  refine g_get C E hw inW4 0 rfl rfl 6 (by decide) kf_X4_13 rfl dX4_changed_1 ?_
  refine lv_iload_n C.1 C.2.1 dX4_changed_4 rfl (lv_at hl 1 rfl) ?_
  refine lv_dup2_11 C.1 C.2.1 dX4_changed_5 rfl rfl ?_
  obtain ⟨v_1, hv_1, hf⟩ := bnd hf
  refine g_ald C E hw 2 rfl (ld_some hv_1) dX4_changed_6 ?_
  refine lv_iconst (v := 1) C.1 C.2.1 dX4_changed_7 (by decide) ?_
  refine lv_iload_n C.1 C.2.1 dX4_changed_8 rfl (lv_at hl 2 rfl) ?_
  refine lv_ishl C.1 C.2.1 dX4_changed_9 ?_
  refine lv_ixor C.1 C.2.1 dX4_changed_10 ?_
  obtain ⟨S_2, hS_2, hf⟩ := bnd hf
  refine g_ast C E hw 2 rfl (sto_some hS_2).1 (ws' := (mw cI q) S_2) (by rw [← (sto_some hS_2).2]; rfl) dX4_changed_11 (fun H locs hw => ?_)
  refine lv_aload_n C.1 C.2.1 dX4_changed_12 rfl (lv_at hl 0 rfl) ?_
  refine g_get C E hw inW4 0 rfl rfl 6 (by decide) kf_X4_13 rfl dX4_changed_13 ?_
  refine lv_iload_n C.1 C.2.1 dX4_changed_16 rfl (lv_at hl 1 rfl) ?_
  obtain ⟨v_3, hv_3, hf⟩ := bnd hf
  refine g_ald C E hw 2 rfl (ld_some hv_3) dX4_changed_17 ?_
  obtain ⟨v_4, hv_4, hf⟩ := bnd hf
  refine g_ci0e (rest := []) hw (g_run0 (rm := ({ frames := 0, cells := 0, slots := 0, locals := 0 } : Room)) (As := [.int v_3]) (rest := []) C F_X4_many (ctX4_many l v_3 hv_4) km_X4_78 rfl hl.1 rfl (Nat.le_of_ble_eq_true rfl) ⟨(Nat.le_of_ble_eq_true rfl), (Nat.le_of_ble_eq_true rfl)⟩ ⟨(Nat.le_of_ble_eq_true rfl), (Nat.le_of_ble_eq_true rfl)⟩ dX4_changed_18) (fun H locs hw => ?_)
  exact g_iret C hw (Nat.le_of_ble_eq_true rfl) (Nat.le_of_ble_eq_true rfl) ⟨congrArg Prod.fst (Option.some.inj hf), congrArg Prod.snd (Option.some.inj hf)⟩ dX4_changed_21
/-! DreamLedgerModel.tagDream -/
def fX4_tagDream_21 (S : St) : Option (Int32 × St) :=
  Option.bind (fX4_fail S 1) fun u_14 => pr u_14 fun v_12 S_13 =>
  some (v_12, S_13)
set_option maxHeartbeats 4000000 in
set_option maxRecDepth 100000 in
theorem wX4_tagDream_21 {p : Program} {l : Launch} {e : Env} {s : State} {m : MethodId} {args : Array Value} {below : List Frame} {meth : Method} {c : Code} {D : va_G} {cI : ClassId} {q : Nat → Nat} (C : Ctx p s m args meth c cX4_tagDream 3 RX4 (some .int)) (E : gE D cI s) {S0 : St} {r1 : Int32} {S1 : St} : ∀ (S : St), fX4_tagDream_21 S = some (r1, S1) → ∀ (H : Heap) (locs : List Loc) (ls : Array Slot), gW D ((mw cI q) S0) ((mw cI q) S) s H locs → lv_has ls 3 [(0, .ref (q 0))] → W p l e ({ frames := 2, cells := 0, slots := 0, locals := 44 } : Room) s m args below meth c H locs 0 0 (MQ below (gQi D (mw cI q) S0 (fun (r : Int32) (u : St) => r = r1 ∧ u = S1) s.heap.size) args s 0 0 (va_A ((mw cI q) S0) s.heap.size)) (F0 m 21 ls []) := by
  intro S hf H locs ls hw hl
  unfold fX4_tagDream_21 at hf
  refine lv_aload_n C.1 C.2.1 dX4_tagDream_21 rfl (lv_at hl 0 rfl) ?_
  refine lv_iconst (v := 1) C.1 C.2.1 dX4_tagDream_22 (by decide) ?_
  obtain ⟨⟨v_12, S_13⟩, hu_14, hf⟩ := bnd hf
  have hf := pr_r hf
  refine g_cie (wf := (mw cI q)) (S := S) (rest := []) mw_adr hw (g_runV (rm := ({ frames := 0, cells := 0, slots := 0, locals := 0 } : Room)) (As := [.int 1]) (rest := []) C E hw F_X4_fail (ctX4_fail l (cI := cI) (D := D) (q := q) S 1 _ hu_14) km_X4_68 0 rfl rfl rfl hl.1 rfl (Nat.le_of_ble_eq_true rfl) ⟨(Nat.le_of_ble_eq_true rfl), (Nat.le_of_ble_eq_true rfl)⟩ ⟨(Nat.le_of_ble_eq_true rfl), (Nat.le_of_ble_eq_true rfl)⟩ dX4_tagDream_23) (fun H locs hw => ?_)
  exact g_iret C hw (Nat.le_of_ble_eq_true rfl) (Nat.le_of_ble_eq_true rfl) ⟨congrArg Prod.fst (Option.some.inj hf), congrArg Prod.snd (Option.some.inj hf)⟩ dX4_tagDream_26
def fX4_tagDream (S : St) (x1 : Int32) (x2 : Int32) : Option (Int32 × St) :=
  Option.bind (some (up S 10 0 0)) fun S_1 =>
  Option.bind (fX4_isDream S_1 x1) fun v_2 =>
  if v_2 = 0 then
    fX4_tagDream_21 S_1
  else
    Option.bind (fX4_isTag S_1 x2) fun v_3 =>
    if v_3 = 0 then
      fX4_tagDream_21 S_1
    else
      Option.bind (ld S_1 1 24 x1) fun v_4 =>
      Option.bind (fX4_is v_4 x2) fun v_5 =>
      if v_5 = 0 then
        Option.bind (fX4_changed S_1 x1 x2) fun u_8 => pr u_8 fun v_6 S_7 =>
        some (v_6, S_7)
      else
        Option.bind (fX4_fail S_1 2) fun u_11 => pr u_11 fun v_9 S_10 =>
        some (v_9, S_10)
set_option maxHeartbeats 4000000 in
set_option maxRecDepth 100000 in
theorem ctX4_tagDream (l : Launch) {D : va_G} {cI : ClassId} {q : Nat → Nat} (S : St) (x1 : Int32) (x2 : Int32) (sz : Nat) {r1 : Int32} {S1 : St} (hf : fX4_tagDream S x1 x2 = some (r1, S1)) : Met l yX4_tagDream (Cond.code yX4_tagDream cX4_tagDream 3 (some .int) :: XALL) ({ frames := 2, cells := 0, slots := 0, locals := 44 } : Room) (va_Pc [.ref (q 0), .int x1, .int x2] (gPre D cI ((mw cI q) S) sz)) (gQi D (mw cI q) S (fun (r : Int32) (u : St) => r = r1 ∧ u = S1) sz) 0 0 (va_A ((mw cI q) S) sz) := by
  unfold fX4_tagDream at hf
  refine Met.ofW (cc := cX4_tagDream) (maxL := 3) (ret := (some .int)) (by decide) rfl ?_
  intro p e s m args below meth c s₁ B hml hv
  obtain ⟨rfl, hg⟩ := hv
  have C : Ctx p s m _ meth c cX4_tagDream 3 RX4 (some .int) := Ctx.of B hml rfl
  obtain ⟨E, hw, hsz⟩ := g_start hg
  subst hsz
  have hl := lv_entry ([.ref (q 0), .int x1, .int x2]) (n := 3) (Nat.le_of_ble_eq_true rfl)
  rw [lg_entry_eq]
  generalize (lg_sl ([.ref (q 0), .int x1, .int x2]) ++ List.replicate (3 - (lg_sl ([.ref (q 0), .int x1, .int x2])).length) Slot.unset).toArray = ls at hl ⊢
  have hl : lv_has ls 3 [(0, .ref (q 0)), (1, .int x1), (2, .int x2)] := hl
  refine lv_aload_n C.1 C.2.1 dX4_tagDream_0 rfl (lv_at hl 0 rfl) ?_
  refine lv_iconst (v := 0) C.1 C.2.1 dX4_tagDream_1 (by decide) ?_
  obtain ⟨S_1, hS_1, hf⟩ := bnd hf
  refine g_put C E hw inW4 tyX4 tyX4_ok nmX4 0 rfl rfl 0 (by decide) kf_X4_40 rfl (by decide +kernel) (Nat.le_of_ble_eq_true rfl) (ws' := (mw cI q) S_1) (by rw [← Option.some.inj hS_1]; rfl) dX4_tagDream_2 (fun H locs hw => ?_)
  refine lv_aload_n C.1 C.2.1 dX4_tagDream_5 rfl (lv_at hl 0 rfl) ?_
  refine lv_iload_n C.1 C.2.1 dX4_tagDream_6 rfl (lv_at hl 1 rfl) ?_
  obtain ⟨v_2, hv_2, hf⟩ := bnd hf
  refine g_cie (wf := (mw cI q)) (S := S_1) (rest := []) mw_adr hw (g_runV (rm := ({ frames := 1, cells := 0, slots := 0, locals := 22 } : Room)) (As := [.int x1]) (rest := []) C E hw F_X4_isDream (ctX4_isDream l (cI := cI) (D := D) (q := q) S_1 x1 _ hv_2) km_X4_84 0 rfl rfl rfl hl.1 rfl (Nat.le_of_ble_eq_true rfl) ⟨(Nat.le_of_ble_eq_true rfl), (Nat.le_of_ble_eq_true rfl)⟩ ⟨(Nat.le_of_ble_eq_true rfl), (Nat.le_of_ble_eq_true rfl)⟩ dX4_tagDream_7) (fun H locs hw => ?_)
  refine lv_if_eq (tgt := 21) C.1 C.2.1 dX4_tagDream_10 (by decide) (fun hc => ?_) (fun hc => ?_)
  · have hf := ift hc hf
    exact wX4_tagDream_21 C E S_1 hf _ _ _ hw (lv_sub hl [0] rfl)
  · have hf := iff_ hc hf
    refine lv_aload_n C.1 C.2.1 dX4_tagDream_13 rfl (lv_at hl 0 rfl) ?_
    refine lv_iload_n C.1 C.2.1 dX4_tagDream_14 rfl (lv_at hl 2 rfl) ?_
    obtain ⟨v_3, hv_3, hf⟩ := bnd hf
    refine g_cie (wf := (mw cI q)) (S := S_1) (rest := []) mw_adr hw (g_runV (rm := ({ frames := 1, cells := 0, slots := 0, locals := 22 } : Room)) (As := [.int x2]) (rest := []) C E hw F_X4_isTag (ctX4_isTag l (cI := cI) (D := D) (q := q) S_1 x2 _ hv_3) km_X4_71 0 rfl rfl rfl hl.1 rfl (Nat.le_of_ble_eq_true rfl) ⟨(Nat.le_of_ble_eq_true rfl), (Nat.le_of_ble_eq_true rfl)⟩ ⟨(Nat.le_of_ble_eq_true rfl), (Nat.le_of_ble_eq_true rfl)⟩ dX4_tagDream_15) (fun H locs hw => ?_)
    refine lv_if_ne (tgt := 27) C.1 C.2.1 dX4_tagDream_18 (by decide) (fun hc => ?_) (fun hc => ?_)
    · have hf := iff_ hc hf
      refine lv_aload_n C.1 C.2.1 dX4_tagDream_27 rfl (lv_at hl 0 rfl) ?_
      refine g_get C E hw inW4 0 rfl rfl 6 (by decide) kf_X4_13 rfl dX4_tagDream_28 ?_
      refine lv_iload_n C.1 C.2.1 dX4_tagDream_31 rfl (lv_at hl 1 rfl) ?_
      obtain ⟨v_4, hv_4, hf⟩ := bnd hf
      refine g_ald C E hw 2 rfl (ld_some hv_4) dX4_tagDream_32 ?_
      refine lv_iload_n C.1 C.2.1 dX4_tagDream_33 rfl (lv_at hl 2 rfl) ?_
      obtain ⟨v_5, hv_5, hf⟩ := bnd hf
      refine g_ci0e (rest := []) hw (g_run0 (rm := ({ frames := 0, cells := 0, slots := 0, locals := 0 } : Room)) (As := [.int v_4, .int x2]) (rest := []) C F_X4_is (ctX4_is l v_4 x2 hv_5) km_X4_61 rfl hl.1 rfl (Nat.le_of_ble_eq_true rfl) ⟨(Nat.le_of_ble_eq_true rfl), (Nat.le_of_ble_eq_true rfl)⟩ ⟨(Nat.le_of_ble_eq_true rfl), (Nat.le_of_ble_eq_true rfl)⟩ dX4_tagDream_34) (fun H locs hw => ?_)
      refine lv_if_eq (tgt := 48) C.1 C.2.1 dX4_tagDream_37 (by decide) (fun hc => ?_) (fun hc => ?_)
      · have hf := ift hc hf
        refine lv_aload_n C.1 C.2.1 dX4_tagDream_48 rfl (lv_at hl 0 rfl) ?_
        refine lv_iload_n C.1 C.2.1 dX4_tagDream_49 rfl (lv_at hl 1 rfl) ?_
        refine lv_iload_n C.1 C.2.1 dX4_tagDream_50 rfl (lv_at hl 2 rfl) ?_
        obtain ⟨⟨v_6, S_7⟩, hu_8, hf⟩ := bnd hf
        have hf := pr_r hf
        refine g_cie (wf := (mw cI q)) (S := S_1) (rest := []) mw_adr hw (g_runV (rm := ({ frames := 1, cells := 0, slots := 0, locals := 22 } : Room)) (As := [.int x1, .int x2]) (rest := []) C E hw F_X4_changed (ctX4_changed l (cI := cI) (D := D) (q := q) S_1 x1 x2 _ hu_8) km_X4_87 0 rfl rfl rfl hl.1 rfl (Nat.le_of_ble_eq_true rfl) ⟨(Nat.le_of_ble_eq_true rfl), (Nat.le_of_ble_eq_true rfl)⟩ ⟨(Nat.le_of_ble_eq_true rfl), (Nat.le_of_ble_eq_true rfl)⟩ dX4_tagDream_51) (fun H locs hw => ?_)
        exact g_iret C hw (Nat.le_of_ble_eq_true rfl) (Nat.le_of_ble_eq_true rfl) ⟨congrArg Prod.fst (Option.some.inj hf), congrArg Prod.snd (Option.some.inj hf)⟩ dX4_tagDream_54
      · have hf := iff_ hc hf
        refine lv_aload_n C.1 C.2.1 dX4_tagDream_40 rfl (lv_at hl 0 rfl) ?_
        refine lv_iconst (v := 2) C.1 C.2.1 dX4_tagDream_41 (by decide) ?_
        obtain ⟨⟨v_9, S_10⟩, hu_11, hf⟩ := bnd hf
        have hf := pr_r hf
        refine g_cie (wf := (mw cI q)) (S := S_1) (rest := []) mw_adr hw (g_runV (rm := ({ frames := 0, cells := 0, slots := 0, locals := 0 } : Room)) (As := [.int 2]) (rest := []) C E hw F_X4_fail (ctX4_fail l (cI := cI) (D := D) (q := q) S_1 2 _ hu_11) km_X4_68 0 rfl rfl rfl hl.1 rfl (Nat.le_of_ble_eq_true rfl) ⟨(Nat.le_of_ble_eq_true rfl), (Nat.le_of_ble_eq_true rfl)⟩ ⟨(Nat.le_of_ble_eq_true rfl), (Nat.le_of_ble_eq_true rfl)⟩ dX4_tagDream_42) (fun H locs hw => ?_)
        refine lv_goto (tgt := 54) C.1 C.2.1 dX4_tagDream_45 (by decide) ?_
        exact g_iret C hw (Nat.le_of_ble_eq_true rfl) (Nat.le_of_ble_eq_true rfl) ⟨congrArg Prod.fst (Option.some.inj hf), congrArg Prod.snd (Option.some.inj hf)⟩ dX4_tagDream_54
    · have hf := ift hc hf
      exact wX4_tagDream_21 C E S_1 hf _ _ _ hw (lv_sub hl [0] rfl)
/-! DreamLedgerModel.untagDream -/
def fX4_untagDream_21 (S : St) : Option (Int32 × St) :=
  Option.bind (fX4_fail S 1) fun u_12 => pr u_12 fun v_10 S_11 =>
  some (v_10, S_11)
set_option maxHeartbeats 4000000 in
set_option maxRecDepth 100000 in
theorem wX4_untagDream_21 {p : Program} {l : Launch} {e : Env} {s : State} {m : MethodId} {args : Array Value} {below : List Frame} {meth : Method} {c : Code} {D : va_G} {cI : ClassId} {q : Nat → Nat} (C : Ctx p s m args meth c cX4_untagDream 3 RX4 (some .int)) (E : gE D cI s) {S0 : St} {r1 : Int32} {S1 : St} : ∀ (S : St), fX4_untagDream_21 S = some (r1, S1) → ∀ (H : Heap) (locs : List Loc) (ls : Array Slot), gW D ((mw cI q) S0) ((mw cI q) S) s H locs → lv_has ls 3 [(0, .ref (q 0))] → W p l e ({ frames := 2, cells := 0, slots := 0, locals := 44 } : Room) s m args below meth c H locs 0 0 (MQ below (gQi D (mw cI q) S0 (fun (r : Int32) (u : St) => r = r1 ∧ u = S1) s.heap.size) args s 0 0 (va_A ((mw cI q) S0) s.heap.size)) (F0 m 21 ls []) := by
  intro S hf H locs ls hw hl
  unfold fX4_untagDream_21 at hf
  refine lv_aload_n C.1 C.2.1 dX4_untagDream_21 rfl (lv_at hl 0 rfl) ?_
  refine lv_iconst (v := 1) C.1 C.2.1 dX4_untagDream_22 (by decide) ?_
  obtain ⟨⟨v_10, S_11⟩, hu_12, hf⟩ := bnd hf
  have hf := pr_r hf
  refine g_cie (wf := (mw cI q)) (S := S) (rest := []) mw_adr hw (g_runV (rm := ({ frames := 0, cells := 0, slots := 0, locals := 0 } : Room)) (As := [.int 1]) (rest := []) C E hw F_X4_fail (ctX4_fail l (cI := cI) (D := D) (q := q) S 1 _ hu_12) km_X4_68 0 rfl rfl rfl hl.1 rfl (Nat.le_of_ble_eq_true rfl) ⟨(Nat.le_of_ble_eq_true rfl), (Nat.le_of_ble_eq_true rfl)⟩ ⟨(Nat.le_of_ble_eq_true rfl), (Nat.le_of_ble_eq_true rfl)⟩ dX4_untagDream_23) (fun H locs hw => ?_)
  exact g_iret C hw (Nat.le_of_ble_eq_true rfl) (Nat.le_of_ble_eq_true rfl) ⟨congrArg Prod.fst (Option.some.inj hf), congrArg Prod.snd (Option.some.inj hf)⟩ dX4_untagDream_26
def fX4_untagDream_52 (S : St) : Option (Int32 × St) :=
  Option.bind (fX4_fail S 2) fun u_15 => pr u_15 fun v_13 S_14 =>
  some (v_13, S_14)
set_option maxHeartbeats 4000000 in
set_option maxRecDepth 100000 in
theorem wX4_untagDream_52 {p : Program} {l : Launch} {e : Env} {s : State} {m : MethodId} {args : Array Value} {below : List Frame} {meth : Method} {c : Code} {D : va_G} {cI : ClassId} {q : Nat → Nat} (C : Ctx p s m args meth c cX4_untagDream 3 RX4 (some .int)) (E : gE D cI s) {S0 : St} {r1 : Int32} {S1 : St} : ∀ (S : St), fX4_untagDream_52 S = some (r1, S1) → ∀ (H : Heap) (locs : List Loc) (ls : Array Slot), gW D ((mw cI q) S0) ((mw cI q) S) s H locs → lv_has ls 3 [(0, .ref (q 0))] → W p l e ({ frames := 2, cells := 0, slots := 0, locals := 44 } : Room) s m args below meth c H locs 0 0 (MQ below (gQi D (mw cI q) S0 (fun (r : Int32) (u : St) => r = r1 ∧ u = S1) s.heap.size) args s 0 0 (va_A ((mw cI q) S0) s.heap.size)) (F0 m 52 ls []) := by
  intro S hf H locs ls hw hl
  unfold fX4_untagDream_52 at hf
  refine lv_aload_n C.1 C.2.1 dX4_untagDream_52 rfl (lv_at hl 0 rfl) ?_
  refine lv_iconst (v := 2) C.1 C.2.1 dX4_untagDream_53 (by decide) ?_
  obtain ⟨⟨v_13, S_14⟩, hu_15, hf⟩ := bnd hf
  have hf := pr_r hf
  refine g_cie (wf := (mw cI q)) (S := S) (rest := []) mw_adr hw (g_runV (rm := ({ frames := 0, cells := 0, slots := 0, locals := 0 } : Room)) (As := [.int 2]) (rest := []) C E hw F_X4_fail (ctX4_fail l (cI := cI) (D := D) (q := q) S 2 _ hu_15) km_X4_68 0 rfl rfl rfl hl.1 rfl (Nat.le_of_ble_eq_true rfl) ⟨(Nat.le_of_ble_eq_true rfl), (Nat.le_of_ble_eq_true rfl)⟩ ⟨(Nat.le_of_ble_eq_true rfl), (Nat.le_of_ble_eq_true rfl)⟩ dX4_untagDream_54) (fun H locs hw => ?_)
  refine lv_goto (tgt := 66) C.1 C.2.1 dX4_untagDream_57 (by decide) ?_
  exact g_iret C hw (Nat.le_of_ble_eq_true rfl) (Nat.le_of_ble_eq_true rfl) ⟨congrArg Prod.fst (Option.some.inj hf), congrArg Prod.snd (Option.some.inj hf)⟩ dX4_untagDream_66
def fX4_untagDream (S : St) (x1 : Int32) (x2 : Int32) : Option (Int32 × St) :=
  Option.bind (some (up S 10 0 0)) fun S_1 =>
  Option.bind (fX4_isDream S_1 x1) fun v_2 =>
  if v_2 = 0 then
    fX4_untagDream_21 S_1
  else
    Option.bind (fX4_isTag S_1 x2) fun v_3 =>
    if v_3 = 0 then
      fX4_untagDream_21 S_1
    else
      Option.bind (ld S_1 1 24 x1) fun v_4 =>
      Option.bind (fX4_is v_4 x2) fun v_5 =>
      if v_5 = 0 then
        fX4_untagDream_52 S_1
      else
        Option.bind (ld S_1 1 24 x1) fun v_6 =>
        if v_6 = ((1 : Int32) <<< (x2 &&& 31)) then
          fX4_untagDream_52 S_1
        else
          Option.bind (fX4_changed S_1 x1 x2) fun u_9 => pr u_9 fun v_7 S_8 =>
          some (v_7, S_8)
set_option maxHeartbeats 4000000 in
set_option maxRecDepth 100000 in
theorem ctX4_untagDream (l : Launch) {D : va_G} {cI : ClassId} {q : Nat → Nat} (S : St) (x1 : Int32) (x2 : Int32) (sz : Nat) {r1 : Int32} {S1 : St} (hf : fX4_untagDream S x1 x2 = some (r1, S1)) : Met l yX4_untagDream (Cond.code yX4_untagDream cX4_untagDream 3 (some .int) :: XALL) ({ frames := 2, cells := 0, slots := 0, locals := 44 } : Room) (va_Pc [.ref (q 0), .int x1, .int x2] (gPre D cI ((mw cI q) S) sz)) (gQi D (mw cI q) S (fun (r : Int32) (u : St) => r = r1 ∧ u = S1) sz) 0 0 (va_A ((mw cI q) S) sz) := by
  unfold fX4_untagDream at hf
  refine Met.ofW (cc := cX4_untagDream) (maxL := 3) (ret := (some .int)) (by decide) rfl ?_
  intro p e s m args below meth c s₁ B hml hv
  obtain ⟨rfl, hg⟩ := hv
  have C : Ctx p s m _ meth c cX4_untagDream 3 RX4 (some .int) := Ctx.of B hml rfl
  obtain ⟨E, hw, hsz⟩ := g_start hg
  subst hsz
  have hl := lv_entry ([.ref (q 0), .int x1, .int x2]) (n := 3) (Nat.le_of_ble_eq_true rfl)
  rw [lg_entry_eq]
  generalize (lg_sl ([.ref (q 0), .int x1, .int x2]) ++ List.replicate (3 - (lg_sl ([.ref (q 0), .int x1, .int x2])).length) Slot.unset).toArray = ls at hl ⊢
  have hl : lv_has ls 3 [(0, .ref (q 0)), (1, .int x1), (2, .int x2)] := hl
  refine lv_aload_n C.1 C.2.1 dX4_untagDream_0 rfl (lv_at hl 0 rfl) ?_
  refine lv_iconst (v := 0) C.1 C.2.1 dX4_untagDream_1 (by decide) ?_
  obtain ⟨S_1, hS_1, hf⟩ := bnd hf
  refine g_put C E hw inW4 tyX4 tyX4_ok nmX4 0 rfl rfl 0 (by decide) kf_X4_40 rfl (by decide +kernel) (Nat.le_of_ble_eq_true rfl) (ws' := (mw cI q) S_1) (by rw [← Option.some.inj hS_1]; rfl) dX4_untagDream_2 (fun H locs hw => ?_)
  refine lv_aload_n C.1 C.2.1 dX4_untagDream_5 rfl (lv_at hl 0 rfl) ?_
  refine lv_iload_n C.1 C.2.1 dX4_untagDream_6 rfl (lv_at hl 1 rfl) ?_
  obtain ⟨v_2, hv_2, hf⟩ := bnd hf
  refine g_cie (wf := (mw cI q)) (S := S_1) (rest := []) mw_adr hw (g_runV (rm := ({ frames := 1, cells := 0, slots := 0, locals := 22 } : Room)) (As := [.int x1]) (rest := []) C E hw F_X4_isDream (ctX4_isDream l (cI := cI) (D := D) (q := q) S_1 x1 _ hv_2) km_X4_84 0 rfl rfl rfl hl.1 rfl (Nat.le_of_ble_eq_true rfl) ⟨(Nat.le_of_ble_eq_true rfl), (Nat.le_of_ble_eq_true rfl)⟩ ⟨(Nat.le_of_ble_eq_true rfl), (Nat.le_of_ble_eq_true rfl)⟩ dX4_untagDream_7) (fun H locs hw => ?_)
  refine lv_if_eq (tgt := 21) C.1 C.2.1 dX4_untagDream_10 (by decide) (fun hc => ?_) (fun hc => ?_)
  · have hf := ift hc hf
    exact wX4_untagDream_21 C E S_1 hf _ _ _ hw (lv_sub hl [0] rfl)
  · have hf := iff_ hc hf
    refine lv_aload_n C.1 C.2.1 dX4_untagDream_13 rfl (lv_at hl 0 rfl) ?_
    refine lv_iload_n C.1 C.2.1 dX4_untagDream_14 rfl (lv_at hl 2 rfl) ?_
    obtain ⟨v_3, hv_3, hf⟩ := bnd hf
    refine g_cie (wf := (mw cI q)) (S := S_1) (rest := []) mw_adr hw (g_runV (rm := ({ frames := 1, cells := 0, slots := 0, locals := 22 } : Room)) (As := [.int x2]) (rest := []) C E hw F_X4_isTag (ctX4_isTag l (cI := cI) (D := D) (q := q) S_1 x2 _ hv_3) km_X4_71 0 rfl rfl rfl hl.1 rfl (Nat.le_of_ble_eq_true rfl) ⟨(Nat.le_of_ble_eq_true rfl), (Nat.le_of_ble_eq_true rfl)⟩ ⟨(Nat.le_of_ble_eq_true rfl), (Nat.le_of_ble_eq_true rfl)⟩ dX4_untagDream_15) (fun H locs hw => ?_)
    refine lv_if_ne (tgt := 27) C.1 C.2.1 dX4_untagDream_18 (by decide) (fun hc => ?_) (fun hc => ?_)
    · have hf := iff_ hc hf
      refine lv_aload_n C.1 C.2.1 dX4_untagDream_27 rfl (lv_at hl 0 rfl) ?_
      refine g_get C E hw inW4 0 rfl rfl 6 (by decide) kf_X4_13 rfl dX4_untagDream_28 ?_
      refine lv_iload_n C.1 C.2.1 dX4_untagDream_31 rfl (lv_at hl 1 rfl) ?_
      obtain ⟨v_4, hv_4, hf⟩ := bnd hf
      refine g_ald C E hw 2 rfl (ld_some hv_4) dX4_untagDream_32 ?_
      refine lv_iload_n C.1 C.2.1 dX4_untagDream_33 rfl (lv_at hl 2 rfl) ?_
      obtain ⟨v_5, hv_5, hf⟩ := bnd hf
      refine g_ci0e (rest := []) hw (g_run0 (rm := ({ frames := 0, cells := 0, slots := 0, locals := 0 } : Room)) (As := [.int v_4, .int x2]) (rest := []) C F_X4_is (ctX4_is l v_4 x2 hv_5) km_X4_61 rfl hl.1 rfl (Nat.le_of_ble_eq_true rfl) ⟨(Nat.le_of_ble_eq_true rfl), (Nat.le_of_ble_eq_true rfl)⟩ ⟨(Nat.le_of_ble_eq_true rfl), (Nat.le_of_ble_eq_true rfl)⟩ dX4_untagDream_34) (fun H locs hw => ?_)
      refine lv_if_eq (tgt := 52) C.1 C.2.1 dX4_untagDream_37 (by decide) (fun hc => ?_) (fun hc => ?_)
      · have hf := ift hc hf
        exact wX4_untagDream_52 C E S_1 hf _ _ _ hw (lv_sub hl [0] rfl)
      · have hf := iff_ hc hf
        refine lv_aload_n C.1 C.2.1 dX4_untagDream_40 rfl (lv_at hl 0 rfl) ?_
        refine g_get C E hw inW4 0 rfl rfl 6 (by decide) kf_X4_13 rfl dX4_untagDream_41 ?_
        refine lv_iload_n C.1 C.2.1 dX4_untagDream_44 rfl (lv_at hl 1 rfl) ?_
        obtain ⟨v_6, hv_6, hf⟩ := bnd hf
        refine g_ald C E hw 2 rfl (ld_some hv_6) dX4_untagDream_45 ?_
        refine lv_iconst (v := 1) C.1 C.2.1 dX4_untagDream_46 (by decide) ?_
        refine lv_iload_n C.1 C.2.1 dX4_untagDream_47 rfl (lv_at hl 2 rfl) ?_
        refine lv_ishl C.1 C.2.1 dX4_untagDream_48 ?_
        refine lv_icmp_ne (tgt := 60) C.1 C.2.1 dX4_untagDream_49 (by decide) (fun hc => ?_) (fun hc => ?_)
        · have hf := iff_ hc hf
          refine lv_aload_n C.1 C.2.1 dX4_untagDream_60 rfl (lv_at hl 0 rfl) ?_
          refine lv_iload_n C.1 C.2.1 dX4_untagDream_61 rfl (lv_at hl 1 rfl) ?_
          refine lv_iload_n C.1 C.2.1 dX4_untagDream_62 rfl (lv_at hl 2 rfl) ?_
          obtain ⟨⟨v_7, S_8⟩, hu_9, hf⟩ := bnd hf
          have hf := pr_r hf
          refine g_cie (wf := (mw cI q)) (S := S_1) (rest := []) mw_adr hw (g_runV (rm := ({ frames := 1, cells := 0, slots := 0, locals := 22 } : Room)) (As := [.int x1, .int x2]) (rest := []) C E hw F_X4_changed (ctX4_changed l (cI := cI) (D := D) (q := q) S_1 x1 x2 _ hu_9) km_X4_87 0 rfl rfl rfl hl.1 rfl (Nat.le_of_ble_eq_true rfl) ⟨(Nat.le_of_ble_eq_true rfl), (Nat.le_of_ble_eq_true rfl)⟩ ⟨(Nat.le_of_ble_eq_true rfl), (Nat.le_of_ble_eq_true rfl)⟩ dX4_untagDream_63) (fun H locs hw => ?_)
          exact g_iret C hw (Nat.le_of_ble_eq_true rfl) (Nat.le_of_ble_eq_true rfl) ⟨congrArg Prod.fst (Option.some.inj hf), congrArg Prod.snd (Option.some.inj hf)⟩ dX4_untagDream_66
        · have hf := ift hc hf
          exact wX4_untagDream_52 C E S_1 hf _ _ _ hw (lv_sub hl [0] rfl)
    · have hf := ift hc hf
      exact wX4_untagDream_21 C E S_1 hf _ _ _ hw (lv_sub hl [0] rfl)
/-! DreamLedgerModel.recall -/
def fX4_recall (S : St) (x1 : Int32) (x2 : Int32) : Option (Int32 × St) :=
  Option.bind (some (up S 10 0 0)) fun S_1 =>
  Option.bind (fX4_isDream S_1 x1) fun v_2 =>
  if v_2 = 0 then
    Option.bind (fX4_fail S_1 1) fun u_11 => pr u_11 fun v_9 S_10 =>
    some (v_9, S_10)
  else
    Option.bind (fX4_isIn x2 0 9) fun v_3 =>
    if v_3 = 0 then
      Option.bind (fX4_fail S_1 2) fun u_8 => pr u_8 fun v_6 S_7 =>
      some (v_6, S_7)
    else
      Option.bind (ld S_1 2 24 x1) fun v_4 =>
      Option.bind (sto S_1 2 24 x1 x2) fun S_5 =>
      some (v_4, S_5)
set_option maxHeartbeats 4000000 in
set_option maxRecDepth 100000 in
theorem ctX4_recall (l : Launch) {D : va_G} {cI : ClassId} {q : Nat → Nat} (S : St) (x1 : Int32) (x2 : Int32) (sz : Nat) {r1 : Int32} {S1 : St} (hf : fX4_recall S x1 x2 = some (r1, S1)) : Met l yX4_recall (Cond.code yX4_recall cX4_recall 4 (some .int) :: XALL) ({ frames := 2, cells := 0, slots := 0, locals := 43 } : Room) (va_Pc [.ref (q 0), .int x1, .int x2] (gPre D cI ((mw cI q) S) sz)) (gQi D (mw cI q) S (fun (r : Int32) (u : St) => r = r1 ∧ u = S1) sz) 0 0 (va_A ((mw cI q) S) sz) := by
  unfold fX4_recall at hf
  refine Met.ofW (cc := cX4_recall) (maxL := 4) (ret := (some .int)) (by decide) rfl ?_
  intro p e s m args below meth c s₁ B hml hv
  obtain ⟨rfl, hg⟩ := hv
  have C : Ctx p s m _ meth c cX4_recall 4 RX4 (some .int) := Ctx.of B hml rfl
  obtain ⟨E, hw, hsz⟩ := g_start hg
  subst hsz
  have hl := lv_entry ([.ref (q 0), .int x1, .int x2]) (n := 4) (Nat.le_of_ble_eq_true rfl)
  rw [lg_entry_eq]
  generalize (lg_sl ([.ref (q 0), .int x1, .int x2]) ++ List.replicate (4 - (lg_sl ([.ref (q 0), .int x1, .int x2])).length) Slot.unset).toArray = ls at hl ⊢
  have hl : lv_has ls 4 [(0, .ref (q 0)), (1, .int x1), (2, .int x2)] := hl
  refine lv_aload_n C.1 C.2.1 dX4_recall_0 rfl (lv_at hl 0 rfl) ?_
  refine lv_iconst (v := 0) C.1 C.2.1 dX4_recall_1 (by decide) ?_
  obtain ⟨S_1, hS_1, hf⟩ := bnd hf
  refine g_put C E hw inW4 tyX4 tyX4_ok nmX4 0 rfl rfl 0 (by decide) kf_X4_40 rfl (by decide +kernel) (Nat.le_of_ble_eq_true rfl) (ws' := (mw cI q) S_1) (by rw [← Option.some.inj hS_1]; rfl) dX4_recall_2 (fun H locs hw => ?_)
  refine lv_aload_n C.1 C.2.1 dX4_recall_5 rfl (lv_at hl 0 rfl) ?_
  refine lv_iload_n C.1 C.2.1 dX4_recall_6 rfl (lv_at hl 1 rfl) ?_
  obtain ⟨v_2, hv_2, hf⟩ := bnd hf
  refine g_cie (wf := (mw cI q)) (S := S_1) (rest := []) mw_adr hw (g_runV (rm := ({ frames := 1, cells := 0, slots := 0, locals := 22 } : Room)) (As := [.int x1]) (rest := []) C E hw F_X4_isDream (ctX4_isDream l (cI := cI) (D := D) (q := q) S_1 x1 _ hv_2) km_X4_84 0 rfl rfl rfl hl.1 rfl (Nat.le_of_ble_eq_true rfl) ⟨(Nat.le_of_ble_eq_true rfl), (Nat.le_of_ble_eq_true rfl)⟩ ⟨(Nat.le_of_ble_eq_true rfl), (Nat.le_of_ble_eq_true rfl)⟩ dX4_recall_7) (fun H locs hw => ?_)
  refine lv_if_ne (tgt := 19) C.1 C.2.1 dX4_recall_10 (by decide) (fun hc => ?_) (fun hc => ?_)
  · have hf := iff_ hc hf
    refine lv_iload_n C.1 C.2.1 dX4_recall_19 rfl (lv_at hl 2 rfl) ?_
    refine lv_iconst (v := 0) C.1 C.2.1 dX4_recall_20 (by decide) ?_
    refine lv_bipush (v := 9) C.1 C.2.1 dX4_recall_21 (by decide) ?_
    obtain ⟨v_3, hv_3, hf⟩ := bnd hf
    refine g_ci0e (rest := []) hw (g_run0 (rm := ({ frames := 0, cells := 0, slots := 0, locals := 0 } : Room)) (As := [.int x2, .int 0, .int 9]) (rest := []) C F_X4_isIn (ctX4_isIn l x2 0 9 hv_3) km_X4_47 rfl hl.1 rfl (Nat.le_of_ble_eq_true rfl) ⟨(Nat.le_of_ble_eq_true rfl), (Nat.le_of_ble_eq_true rfl)⟩ ⟨(Nat.le_of_ble_eq_true rfl), (Nat.le_of_ble_eq_true rfl)⟩ dX4_recall_23) (fun H locs hw => ?_)
    refine lv_if_ne (tgt := 35) C.1 C.2.1 dX4_recall_26 (by decide) (fun hc => ?_) (fun hc => ?_)
    · have hf := iff_ hc hf
      refine lv_aload_n C.1 C.2.1 dX4_recall_35 rfl (lv_at hl 0 rfl) ?_
      refine g_get C E hw inW4 0 rfl rfl 7 (by decide) kf_X4_16 rfl dX4_recall_36 ?_
      refine lv_iload_n C.1 C.2.1 dX4_recall_39 rfl (lv_at hl 1 rfl) ?_
      obtain ⟨v_4, hv_4, hf⟩ := bnd hf
      refine g_ald C E hw 3 rfl (ld_some hv_4) dX4_recall_40 ?_
      refine lv_istore_n (lv' := [(3, .int v_4), (0, .ref (q 0)), (1, .int x1), (2, .int x2)]) C.1 C.2.1 dX4_recall_41 rfl hl (by decide) rfl (fun ls hl => ?_)
      refine lv_aload_n C.1 C.2.1 dX4_recall_42 rfl (lv_at hl 1 rfl) ?_
      refine g_get C E hw inW4 0 rfl rfl 7 (by decide) kf_X4_16 rfl dX4_recall_43 ?_
      refine lv_iload_n C.1 C.2.1 dX4_recall_46 rfl (lv_at hl 2 rfl) ?_
      refine lv_iload_n C.1 C.2.1 dX4_recall_47 rfl (lv_at hl 3 rfl) ?_
      obtain ⟨S_5, hS_5, hf⟩ := bnd hf
      refine g_ast C E hw 3 rfl (sto_some hS_5).1 (ws' := (mw cI q) S_5) (by rw [← (sto_some hS_5).2]; rfl) dX4_recall_48 (fun H locs hw => ?_)
      refine lv_iload_n C.1 C.2.1 dX4_recall_49 rfl (lv_at hl 0 rfl) ?_
      exact g_iret C hw (Nat.le_of_ble_eq_true rfl) (Nat.le_of_ble_eq_true rfl) ⟨congrArg Prod.fst (Option.some.inj hf), congrArg Prod.snd (Option.some.inj hf)⟩ dX4_recall_50
    · have hf := ift hc hf
      refine lv_aload_n C.1 C.2.1 dX4_recall_29 rfl (lv_at hl 0 rfl) ?_
      refine lv_iconst (v := 2) C.1 C.2.1 dX4_recall_30 (by decide) ?_
      obtain ⟨⟨v_6, S_7⟩, hu_8, hf⟩ := bnd hf
      have hf := pr_r hf
      refine g_cie (wf := (mw cI q)) (S := S_1) (rest := []) mw_adr hw (g_runV (rm := ({ frames := 0, cells := 0, slots := 0, locals := 0 } : Room)) (As := [.int 2]) (rest := []) C E hw F_X4_fail (ctX4_fail l (cI := cI) (D := D) (q := q) S_1 2 _ hu_8) km_X4_68 0 rfl rfl rfl hl.1 rfl (Nat.le_of_ble_eq_true rfl) ⟨(Nat.le_of_ble_eq_true rfl), (Nat.le_of_ble_eq_true rfl)⟩ ⟨(Nat.le_of_ble_eq_true rfl), (Nat.le_of_ble_eq_true rfl)⟩ dX4_recall_31) (fun H locs hw => ?_)
      exact g_iret C hw (Nat.le_of_ble_eq_true rfl) (Nat.le_of_ble_eq_true rfl) ⟨congrArg Prod.fst (Option.some.inj hf), congrArg Prod.snd (Option.some.inj hf)⟩ dX4_recall_34
  · have hf := ift hc hf
    refine lv_aload_n C.1 C.2.1 dX4_recall_13 rfl (lv_at hl 0 rfl) ?_
    refine lv_iconst (v := 1) C.1 C.2.1 dX4_recall_14 (by decide) ?_
    obtain ⟨⟨v_9, S_10⟩, hu_11, hf⟩ := bnd hf
    have hf := pr_r hf
    refine g_cie (wf := (mw cI q)) (S := S_1) (rest := []) mw_adr hw (g_runV (rm := ({ frames := 0, cells := 0, slots := 0, locals := 0 } : Room)) (As := [.int 1]) (rest := []) C E hw F_X4_fail (ctX4_fail l (cI := cI) (D := D) (q := q) S_1 1 _ hu_11) km_X4_68 0 rfl rfl rfl hl.1 rfl (Nat.le_of_ble_eq_true rfl) ⟨(Nat.le_of_ble_eq_true rfl), (Nat.le_of_ble_eq_true rfl)⟩ ⟨(Nat.le_of_ble_eq_true rfl), (Nat.le_of_ble_eq_true rfl)⟩ dX4_recall_15) (fun H locs hw => ?_)
    exact g_iret C hw (Nat.le_of_ble_eq_true rfl) (Nat.le_of_ble_eq_true rfl) ⟨congrArg Prod.fst (Option.some.inj hf), congrArg Prod.snd (Option.some.inj hf)⟩ dX4_recall_18
/-! DreamLedgerModel.later -/
def fX4_later_36 (S : St) (x1 : Int32) (x2 : Int32) (t0 : Int32) : Option Int32 :=
  if t0 = 0 then
    Option.bind (ld S 2 24 x1) fun v_3 =>
    Option.bind (some (if 0 < (v_3 - x2) then (v_3 - x2) else 0)) fun v_4 =>
    some v_4
  else
    Option.bind (ld S 2 24 x1) fun v_5 =>
    some v_5
set_option maxHeartbeats 4000000 in
set_option maxRecDepth 100000 in
theorem wX4_later_36 {p : Program} {l : Launch} {e : Env} {s : State} {m : MethodId} {args : Array Value} {below : List Frame} {meth : Method} {c : Code} {D : va_G} {cI : ClassId} {q : Nat → Nat} (C : Ctx p s m args meth c cX4_later 4 RX4 (some .int)) (E : gE D cI s) {r1 : Int32} (S : St) : ∀ (x1 : Int32) (x2 : Int32) (t0 : Int32), fX4_later_36 S x1 x2 t0 = some r1 → ∀ (H : Heap) (locs : List Loc) (ls : Array Slot), gW D ((mw cI q) S) ((mw cI q) S) s H locs → lv_has ls 4 [(0, .ref (q 0)), (1, .int x1), (2, .int x2)] → W p l e ({ frames := 1, cells := 0, slots := 0, locals := 21 } : Room) s m args below meth c H locs 0 0 (MQ below (gQi D (mw cI q) S (fun (r : Int32) (u : St) => r = r1 ∧ u = S) s.heap.size) args s 0 0 (va_A ((mw cI q) S) s.heap.size)) (F0 m 36 ls [.int t0]) := by
  intro x1 x2 t0 hf H locs ls hw hl
  unfold fX4_later_36 at hf
  refine lv_istore_n (lv' := [(3, .int t0), (0, .ref (q 0)), (1, .int x1), (2, .int x2)]) C.1 C.2.1 dX4_later_36 rfl hl (by decide) rfl (fun ls hl => ?_)
  refine lv_iload_n C.1 C.2.1 dX4_later_37 rfl (lv_at hl 0 rfl) ?_
  refine lv_if_eq (tgt := 50) C.1 C.2.1 dX4_later_38 (by decide) (fun hc => ?_) (fun hc => ?_)
  · have hf := ift hc hf
    refine lv_iconst (v := 0) C.1 C.2.1 dX4_later_50 (by decide) ?_
    refine lv_aload_n C.1 C.2.1 dX4_later_51 rfl (lv_at hl 1 rfl) ?_
    refine g_get C E hw inW4 0 rfl rfl 7 (by decide) kf_X4_16 rfl dX4_later_52 ?_
    refine lv_iload_n C.1 C.2.1 dX4_later_55 rfl (lv_at hl 2 rfl) ?_
    obtain ⟨v_3, hv_3, hf⟩ := bnd hf
    refine g_ald C E hw 3 rfl (ld_some hv_3) dX4_later_56 ?_
    refine lv_iload_n C.1 C.2.1 dX4_later_57 rfl (lv_at hl 3 rfl) ?_
    refine lv_isub C.1 C.2.1 dX4_later_58 ?_
    obtain ⟨v_4, hv_4, hf⟩ := bnd hf
    refine va_mmax C.1 C.2.1 (C.2.2.1.trans hl.1.symm) C.2.2.2.1 (C.2.2.2.2.1 _ km_X4_91) (C.2.2.2.2.1 _ kt_yJ9_max_7cf53) (C.2.2.2.2.1 _ kz_J9) (C.2.2.2.2.1 _ kc_yJ9_max_7cf53) (Nat.le_of_ble_eq_true rfl) (Nat.le_of_ble_eq_true rfl) (Nat.le_of_ble_eq_true rfl) (Nat.le_of_ble_eq_true rfl) dX4_later_59 ?_
    refine topi_b hv_4 ?_
    exact g_iret C hw (Nat.le_of_ble_eq_true rfl) (Nat.le_of_ble_eq_true rfl) ⟨Option.some.inj hf, rfl⟩ dX4_later_62
  · have hf := iff_ hc hf
    refine lv_aload_n C.1 C.2.1 dX4_later_41 rfl (lv_at hl 1 rfl) ?_
    refine g_get C E hw inW4 0 rfl rfl 7 (by decide) kf_X4_16 rfl dX4_later_42 ?_
    refine lv_iload_n C.1 C.2.1 dX4_later_45 rfl (lv_at hl 2 rfl) ?_
    obtain ⟨v_5, hv_5, hf⟩ := bnd hf
    refine g_ald C E hw 3 rfl (ld_some hv_5) dX4_later_46 ?_
    refine lv_goto (tgt := 62) C.1 C.2.1 dX4_later_47 (by decide) ?_
    exact g_iret C hw (Nat.le_of_ble_eq_true rfl) (Nat.le_of_ble_eq_true rfl) ⟨Option.some.inj hf, rfl⟩ dX4_later_62
def fX4_later_31 (S : St) (x1 : Int32) (x2 : Int32) : Option Int32 :=
  fX4_later_36 S x1 x2 1
set_option maxHeartbeats 4000000 in
set_option maxRecDepth 100000 in
theorem wX4_later_31 {p : Program} {l : Launch} {e : Env} {s : State} {m : MethodId} {args : Array Value} {below : List Frame} {meth : Method} {c : Code} {D : va_G} {cI : ClassId} {q : Nat → Nat} (C : Ctx p s m args meth c cX4_later 4 RX4 (some .int)) (E : gE D cI s) {r1 : Int32} (S : St) : ∀ (x1 : Int32) (x2 : Int32), fX4_later_31 S x1 x2 = some r1 → ∀ (H : Heap) (locs : List Loc) (ls : Array Slot), gW D ((mw cI q) S) ((mw cI q) S) s H locs → lv_has ls 4 [(0, .ref (q 0)), (1, .int x1), (2, .int x2)] → W p l e ({ frames := 1, cells := 0, slots := 0, locals := 21 } : Room) s m args below meth c H locs 0 0 (MQ below (gQi D (mw cI q) S (fun (r : Int32) (u : St) => r = r1 ∧ u = S) s.heap.size) args s 0 0 (va_A ((mw cI q) S) s.heap.size)) (F0 m 31 ls []) := by
  intro x1 x2 hf H locs ls hw hl
  unfold fX4_later_31 at hf
  refine lv_iconst (v := 1) C.1 C.2.1 dX4_later_31 (by decide) ?_
  refine lv_goto (tgt := 36) C.1 C.2.1 dX4_later_32 (by decide) ?_
  exact wX4_later_36 C E S x1 x2 1 hf _ _ _ hw (lv_sub hl [0, 1, 2] rfl)
def fX4_later (S : St) (x1 : Int32) (x2 : Int32) : Option Int32 :=
  if x1 = ((S 12 0) - 1) then
    fX4_later_31 S x1 x2
  else
    Option.bind (ld S 1 24 x1) fun v_1 =>
    Option.bind (ld S 1 24 ((S 12 0) - 1)) fun v_2 =>
    if (v_1 &&& v_2) = 0 then
      fX4_later_36 S x1 x2 0
    else
      fX4_later_31 S x1 x2
set_option maxHeartbeats 4000000 in
set_option maxRecDepth 100000 in
theorem ctX4_later (l : Launch) {D : va_G} {cI : ClassId} {q : Nat → Nat} (S : St) (x1 : Int32) (x2 : Int32) (sz : Nat) {r1 : Int32} (hf : fX4_later S x1 x2 = some r1) : Met l yX4_later (Cond.code yX4_later cX4_later 4 (some .int) :: XALL) ({ frames := 1, cells := 0, slots := 0, locals := 21 } : Room) (va_Pc [.ref (q 0), .int x1, .int x2] (gPre D cI ((mw cI q) S) sz)) (gQi D (mw cI q) S (fun (r : Int32) (u : St) => r = r1 ∧ u = S) sz) 0 0 (va_A ((mw cI q) S) sz) := by
  unfold fX4_later at hf
  refine Met.ofW (cc := cX4_later) (maxL := 4) (ret := (some .int)) (by decide) rfl ?_
  intro p e s m args below meth c s₁ B hml hv
  obtain ⟨rfl, hg⟩ := hv
  have C : Ctx p s m _ meth c cX4_later 4 RX4 (some .int) := Ctx.of B hml rfl
  obtain ⟨E, hw, hsz⟩ := g_start hg
  subst hsz
  have hl := lv_entry ([.ref (q 0), .int x1, .int x2]) (n := 4) (Nat.le_of_ble_eq_true rfl)
  rw [lg_entry_eq]
  generalize (lg_sl ([.ref (q 0), .int x1, .int x2]) ++ List.replicate (4 - (lg_sl ([.ref (q 0), .int x1, .int x2])).length) Slot.unset).toArray = ls at hl ⊢
  have hl : lv_has ls 4 [(0, .ref (q 0)), (1, .int x1), (2, .int x2)] := hl
  refine lv_iload_n C.1 C.2.1 dX4_later_0 rfl (lv_at hl 1 rfl) ?_
  refine lv_aload_n C.1 C.2.1 dX4_later_1 rfl (lv_at hl 0 rfl) ?_
  refine g_get C E hw inW4 0 rfl rfl 2 (by decide) kf_X4_51 rfl dX4_later_2 ?_
  refine lv_iconst (v := 1) C.1 C.2.1 dX4_later_5 (by decide) ?_
  refine lv_isub C.1 C.2.1 dX4_later_6 ?_
  refine lv_icmp_eq (tgt := 31) C.1 C.2.1 dX4_later_7 (by decide) (fun hc => ?_) (fun hc => ?_)
  · have hf := ift hc hf
    exact wX4_later_31 C E S x1 x2 hf _ _ _ hw (lv_sub hl [0, 1, 2] rfl)
  · have hf := iff_ hc hf
    refine lv_aload_n C.1 C.2.1 dX4_later_10 rfl (lv_at hl 0 rfl) ?_
    refine g_get C E hw inW4 0 rfl rfl 6 (by decide) kf_X4_13 rfl dX4_later_11 ?_
    refine lv_iload_n C.1 C.2.1 dX4_later_14 rfl (lv_at hl 1 rfl) ?_
    obtain ⟨v_1, hv_1, hf⟩ := bnd hf
    refine g_ald C E hw 2 rfl (ld_some hv_1) dX4_later_15 ?_
    refine lv_aload_n C.1 C.2.1 dX4_later_16 rfl (lv_at hl 0 rfl) ?_
    refine g_get C E hw inW4 0 rfl rfl 6 (by decide) kf_X4_13 rfl dX4_later_17 ?_
    refine lv_aload_n C.1 C.2.1 dX4_later_20 rfl (lv_at hl 0 rfl) ?_
    refine g_get C E hw inW4 0 rfl rfl 2 (by decide) kf_X4_51 rfl dX4_later_21 ?_
    refine lv_iconst (v := 1) C.1 C.2.1 dX4_later_24 (by decide) ?_
    refine lv_isub C.1 C.2.1 dX4_later_25 ?_
    obtain ⟨v_2, hv_2, hf⟩ := bnd hf
    refine g_ald C E hw 2 rfl (ld_some hv_2) dX4_later_26 ?_
    refine lv_iand C.1 C.2.1 dX4_later_27 ?_
    refine lv_if_eq (tgt := 35) C.1 C.2.1 dX4_later_28 (by decide) (fun hc => ?_) (fun hc => ?_)
    · have hf := ift hc hf
      refine lv_iconst (v := 0) C.1 C.2.1 dX4_later_35 (by decide) ?_
      exact wX4_later_36 C E S x1 x2 0 hf _ _ _ hw (lv_sub hl [0, 1, 2] rfl)
    · have hf := iff_ hc hf
      exact wX4_later_31 C E S x1 x2 hf _ _ _ hw (lv_sub hl [0, 1, 2] rfl)
/-! DreamLedgerModel.faded -/
def fX4_faded_27 (S : St) (x1 : Int32) (k4 : Int32 → Int32 → Option Int32) (x3 : Int32) (t0 : Int32) (t1 : Int32) : Option Int32 :=
  Option.bind (some ((t0 + t1))) fun x2_2 =>
  Option.bind (some (x3 + 1)) fun x3_3 =>
  k4 x2_2 x3_3
set_option maxHeartbeats 4000000 in
set_option maxRecDepth 100000 in
theorem wX4_faded_27 {p : Program} {l : Launch} {e : Env} {s : State} {m : MethodId} {args : Array Value} {below : List Frame} {meth : Method} {c : Code} {D : va_G} {cI : ClassId} {q : Nat → Nat} (C : Ctx p s m args meth c cX4_faded 4 RX4 (some .int)) (E : gE D cI s) {r1 : Int32} (S : St) (x1 : Int32) (k4 : Int32 → Int32 → Option Int32) (hk4 : ∀ (x2 : Int32) (x3 : Int32), k4 x2 x3 = some r1 → ∀ (H : Heap) (locs : List Loc) (ls : Array Slot), gW D ((mw cI q) S) ((mw cI q) S) s H locs → lv_has ls 4 [(0, .ref (q 0)), (1, .int x1), (2, .int x2), (3, .int x3)] → W p l e ({ frames := 2, cells := 0, slots := 0, locals := 44 } : Room) s m args below meth c H locs 0 0 (MQ below (gQi D (mw cI q) S (fun (r : Int32) (u : St) => r = r1 ∧ u = S) s.heap.size) args s 0 0 (va_A ((mw cI q) S) s.heap.size)) (F0 m 4 ls [])) : ∀ (x3 : Int32) (t0 : Int32) (t1 : Int32), fX4_faded_27 S x1 k4 x3 t0 t1 = some r1 → ∀ (H : Heap) (locs : List Loc) (ls : Array Slot), gW D ((mw cI q) S) ((mw cI q) S) s H locs → lv_has ls 4 [(0, .ref (q 0)), (1, .int x1), (3, .int x3)] → W p l e ({ frames := 2, cells := 0, slots := 0, locals := 44 } : Room) s m args below meth c H locs 0 0 (MQ below (gQi D (mw cI q) S (fun (r : Int32) (u : St) => r = r1 ∧ u = S) s.heap.size) args s 0 0 (va_A ((mw cI q) S) s.heap.size)) (F0 m 27 ls [.int t1, .int t0]) := by
  intro x3 t0 t1 hf H locs ls hw hl
  unfold fX4_faded_27 at hf
  refine lv_iadd C.1 C.2.1 dX4_faded_27 ?_
  obtain ⟨x2_2, hx2_2, hf⟩ := bnd hf
  refine topi_b hx2_2 ?_
  refine lv_istore_n (lv' := [(2, .int x2_2), (0, .ref (q 0)), (1, .int x1), (3, .int x3)]) C.1 C.2.1 dX4_faded_28 rfl hl (by decide) rfl (fun ls hl => ?_)
  obtain ⟨x3_3, hx3_3, hf⟩ := bnd hf
  refine lv_iinc (v := x3_3) (lv' := [(3, .int x3_3), (2, .int x2_2), (0, .ref (q 0)), (1, .int x1)]) C.1 C.2.1 dX4_faded_29 hl (k := 3) rfl (inc1 hx3_3) (by decide) rfl (fun ls hl => ?_)
  refine lv_goto (tgt := 4) C.1 C.2.1 dX4_faded_32 (by decide) ?_
  exact hk4 x2_2 x3_3 hf _ _ _ hw (lv_sub hl [2, 3, 1, 0] rfl)
def fX4_faded_4 (S : St) (x1 : Int32) : Nat → Int32 → Int32 → Option Int32
  | 0, _, _ => none
  | n + 1, x2, x3 =>
    if (S 12 0) ≤ x3 then
      some x2
    else
      Option.bind (fX4_later S x3 x1) fun v_1 =>
      if v_1 = 0 then
        fX4_faded_27 S x1 (fX4_faded_4 S x1 n) x3 x2 1
      else
        fX4_faded_27 S x1 (fX4_faded_4 S x1 n) x3 x2 0
set_option maxHeartbeats 4000000 in
set_option maxRecDepth 100000 in
theorem wX4_faded_4 {p : Program} {l : Launch} {e : Env} {s : State} {m : MethodId} {args : Array Value} {below : List Frame} {meth : Method} {c : Code} {D : va_G} {cI : ClassId} {q : Nat → Nat} (C : Ctx p s m args meth c cX4_faded 4 RX4 (some .int)) (E : gE D cI s) {r1 : Int32} (S : St) (x1 : Int32) : ∀ (n : Nat) (x2 : Int32) (x3 : Int32), fX4_faded_4 S x1 n x2 x3 = some r1 → ∀ (H : Heap) (locs : List Loc) (ls : Array Slot), gW D ((mw cI q) S) ((mw cI q) S) s H locs → lv_has ls 4 [(0, .ref (q 0)), (1, .int x1), (2, .int x2), (3, .int x3)] → W p l e ({ frames := 2, cells := 0, slots := 0, locals := 44 } : Room) s m args below meth c H locs 0 0 (MQ below (gQi D (mw cI q) S (fun (r : Int32) (u : St) => r = r1 ∧ u = S) s.heap.size) args s 0 0 (va_A ((mw cI q) S) s.heap.size)) (F0 m 4 ls []) := by
  intro n
  induction n with
  | zero => intro x2 x3 hf; rw [fX4_faded_4] at hf; cases hf
  | succ n ih =>
    intro x2 x3 hf H locs ls hw hl
    rw [fX4_faded_4] at hf
    refine lv_iload_n C.1 C.2.1 dX4_faded_4 rfl (lv_at hl 3 rfl) ?_
    refine lv_aload_n C.1 C.2.1 dX4_faded_5 rfl (lv_at hl 0 rfl) ?_
    refine g_get C E hw inW4 0 rfl rfl 2 (by decide) kf_X4_51 rfl dX4_faded_6 ?_
    refine lv_icmp_ge (tgt := 35) C.1 C.2.1 dX4_faded_9 (by decide) (fun hc => ?_) (fun hc => ?_)
    · have hf := ift hc hf
      refine lv_iload_n C.1 C.2.1 dX4_faded_35 rfl (lv_at hl 2 rfl) ?_
      exact g_iret C hw (Nat.le_of_ble_eq_true rfl) (Nat.le_of_ble_eq_true rfl) ⟨Option.some.inj hf, rfl⟩ dX4_faded_36
    · have hf := iff_ hc hf
      refine lv_iload_n C.1 C.2.1 dX4_faded_12 rfl (lv_at hl 2 rfl) ?_
      refine lv_aload_n C.1 C.2.1 dX4_faded_13 rfl (lv_at hl 0 rfl) ?_
      refine lv_iload_n C.1 C.2.1 dX4_faded_14 rfl (lv_at hl 3 rfl) ?_
      refine lv_iload_n C.1 C.2.1 dX4_faded_15 rfl (lv_at hl 1 rfl) ?_
      obtain ⟨v_1, hv_1, hf⟩ := bnd hf
      refine g_cie (wf := (mw cI q)) (S := S) (rest := [.int x2]) mw_adr hw (g_runV (rm := ({ frames := 1, cells := 0, slots := 0, locals := 21 } : Room)) (As := [.int x3, .int x1]) (rest := [.int x2]) C E hw F_X4_later (ctX4_later l (cI := cI) (D := D) (q := q) S x3 x1 _ hv_1) km_X4_96 0 rfl rfl rfl hl.1 rfl (Nat.le_of_ble_eq_true rfl) ⟨(Nat.le_of_ble_eq_true rfl), (Nat.le_of_ble_eq_true rfl)⟩ ⟨(Nat.le_of_ble_eq_true rfl), (Nat.le_of_ble_eq_true rfl)⟩ dX4_faded_16) (fun H locs hw => ?_)
      refine lv_if_ne (tgt := 26) C.1 C.2.1 dX4_faded_19 (by decide) (fun hc => ?_) (fun hc => ?_)
      · have hf := iff_ hc hf
        refine lv_iconst (v := 0) C.1 C.2.1 dX4_faded_26 (by decide) ?_
        exact wX4_faded_27 C E S x1 (fX4_faded_4 S x1 n) ih x3 x2 0 hf _ _ _ hw (lv_sub hl [0, 1, 3] rfl)
      · have hf := ift hc hf
        refine lv_iconst (v := 1) C.1 C.2.1 dX4_faded_22 (by decide) ?_
        refine lv_goto (tgt := 27) C.1 C.2.1 dX4_faded_23 (by decide) ?_
        exact wX4_faded_27 C E S x1 (fX4_faded_4 S x1 n) ih x3 x2 1 hf _ _ _ hw (lv_sub hl [0, 1, 3] rfl)
def fX4_faded (S : St) (x1 : Int32) : Option Int32 :=
  fX4_faded_4 S x1 100 0 0
set_option maxHeartbeats 4000000 in
set_option maxRecDepth 100000 in
theorem ctX4_faded (l : Launch) {D : va_G} {cI : ClassId} {q : Nat → Nat} (S : St) (x1 : Int32) (sz : Nat) {r1 : Int32} (hf : fX4_faded S x1 = some r1) : Met l yX4_faded (Cond.code yX4_faded cX4_faded 4 (some .int) :: XALL) ({ frames := 2, cells := 0, slots := 0, locals := 44 } : Room) (va_Pc [.ref (q 0), .int x1] (gPre D cI ((mw cI q) S) sz)) (gQi D (mw cI q) S (fun (r : Int32) (u : St) => r = r1 ∧ u = S) sz) 0 0 (va_A ((mw cI q) S) sz) := by
  unfold fX4_faded at hf
  refine Met.ofW (cc := cX4_faded) (maxL := 4) (ret := (some .int)) (by decide) rfl ?_
  intro p e s m args below meth c s₁ B hml hv
  obtain ⟨rfl, hg⟩ := hv
  have C : Ctx p s m _ meth c cX4_faded 4 RX4 (some .int) := Ctx.of B hml rfl
  obtain ⟨E, hw, hsz⟩ := g_start hg
  subst hsz
  have hl := lv_entry ([.ref (q 0), .int x1]) (n := 4) (Nat.le_of_ble_eq_true rfl)
  rw [lg_entry_eq]
  generalize (lg_sl ([.ref (q 0), .int x1]) ++ List.replicate (4 - (lg_sl ([.ref (q 0), .int x1])).length) Slot.unset).toArray = ls at hl ⊢
  have hl : lv_has ls 4 [(0, .ref (q 0)), (1, .int x1)] := hl
  refine lv_iconst (v := 0) C.1 C.2.1 dX4_faded_0 (by decide) ?_
  refine lv_istore_n (lv' := [(2, .int 0), (0, .ref (q 0)), (1, .int x1)]) C.1 C.2.1 dX4_faded_1 rfl hl (by decide) rfl (fun ls hl => ?_)
  refine lv_iconst (v := 0) C.1 C.2.1 dX4_faded_2 (by decide) ?_
  refine lv_istore_n (lv' := [(3, .int 0), (2, .int 0), (0, .ref (q 0)), (1, .int x1)]) C.1 C.2.1 dX4_faded_3 rfl hl (by decide) rfl (fun ls hl => ?_)
  exact wX4_faded_4 C E S x1 100 0 0 hf _ _ _ hw (lv_sub hl [2, 3, 1, 0] rfl)
/-! DreamLedgerModel.passNights -/
def fX4_passNights_23 (x1 : Int32) : Nat → St → Int32 → Option (Int32 × St)
  | 0, _, _ => none
  | n + 1, S, x2 =>
    if (S 12 0) ≤ x2 then
      Option.bind (some (up S 14 0 ((S 14 0) + x1))) fun S_6 =>
      Option.bind (fX4_faded S_6 0) fun v_7 =>
      some (v_7, S_6)
    else
      Option.bind (fX4_later S x2 x1) fun v_8 =>
      Option.bind (sto S 2 24 x2 v_8) fun S_9 =>
      Option.bind (some (x2 + 1)) fun x2_10 =>
      fX4_passNights_23 x1 n S_9 x2_10
set_option maxHeartbeats 4000000 in
set_option maxRecDepth 100000 in
theorem wX4_passNights_23 {p : Program} {l : Launch} {e : Env} {s : State} {m : MethodId} {args : Array Value} {below : List Frame} {meth : Method} {c : Code} {D : va_G} {cI : ClassId} {q : Nat → Nat} (C : Ctx p s m args meth c cX4_passNights 3 RX4 (some .int)) (E : gE D cI s) {S0 : St} {r1 : Int32} {S1 : St} (x1 : Int32) : ∀ (n : Nat) (S : St) (x2 : Int32), fX4_passNights_23 x1 n S x2 = some (r1, S1) → ∀ (H : Heap) (locs : List Loc) (ls : Array Slot), gW D ((mw cI q) S0) ((mw cI q) S) s H locs → lv_has ls 3 [(0, .ref (q 0)), (1, .int x1), (2, .int x2)] → W p l e ({ frames := 3, cells := 0, slots := 0, locals := 67 } : Room) s m args below meth c H locs 0 0 (MQ below (gQi D (mw cI q) S0 (fun (r : Int32) (u : St) => r = r1 ∧ u = S1) s.heap.size) args s 0 0 (va_A ((mw cI q) S0) s.heap.size)) (F0 m 23 ls []) := by
  intro n
  induction n with
  | zero => intro S x2 hf; rw [fX4_passNights_23] at hf; cases hf
  | succ n ih =>
    intro S x2 hf H locs ls hw hl
    rw [fX4_passNights_23] at hf
    refine lv_iload_n C.1 C.2.1 dX4_passNights_23 rfl (lv_at hl 2 rfl) ?_
    refine lv_aload_n C.1 C.2.1 dX4_passNights_24 rfl (lv_at hl 0 rfl) ?_
    refine g_get C E hw inW4 0 rfl rfl 2 (by decide) kf_X4_51 rfl dX4_passNights_25 ?_
    refine lv_icmp_ge (tgt := 49) C.1 C.2.1 dX4_passNights_28 (by decide) (fun hc => ?_) (fun hc => ?_)
    · have hf := ift hc hf
      refine lv_aload_n C.1 C.2.1 dX4_passNights_49 rfl (lv_at hl 0 rfl) ?_
      refine lv_dup C.1 C.2.1 dX4_passNights_50 rfl ?_
      refine g_get C E hw inW4 0 rfl rfl 4 (by decide) kf_X4_81 rfl dX4_passNights_51 ?_
      refine lv_iload_n C.1 C.2.1 dX4_passNights_54 rfl (lv_at hl 1 rfl) ?_
      refine lv_iadd C.1 C.2.1 dX4_passNights_55 ?_
      obtain ⟨S_6, hS_6, hf⟩ := bnd hf
      refine g_put C E hw inW4 tyX4 tyX4_ok nmX4 0 rfl rfl 4 (by decide) kf_X4_81 rfl (by decide +kernel) (Nat.le_of_ble_eq_true rfl) (ws' := (mw cI q) S_6) (by rw [← Option.some.inj hS_6]; rfl) dX4_passNights_56 (fun H locs hw => ?_)
      refine lv_aload_n C.1 C.2.1 dX4_passNights_59 rfl (lv_at hl 0 rfl) ?_
      refine lv_iconst (v := 0) C.1 C.2.1 dX4_passNights_60 (by decide) ?_
      obtain ⟨v_7, hv_7, hf⟩ := bnd hf
      refine g_cie (wf := (mw cI q)) (S := S_6) (rest := []) mw_adr hw (g_runV (rm := ({ frames := 2, cells := 0, slots := 0, locals := 44 } : Room)) (As := [.int 0]) (rest := []) C E hw F_X4_faded (ctX4_faded l (cI := cI) (D := D) (q := q) S_6 0 _ hv_7) km_X4_99 0 rfl rfl rfl hl.1 rfl (Nat.le_of_ble_eq_true rfl) ⟨(Nat.le_of_ble_eq_true rfl), (Nat.le_of_ble_eq_true rfl)⟩ ⟨(Nat.le_of_ble_eq_true rfl), (Nat.le_of_ble_eq_true rfl)⟩ dX4_passNights_61) (fun H locs hw => ?_)
      exact g_iret C hw (Nat.le_of_ble_eq_true rfl) (Nat.le_of_ble_eq_true rfl) ⟨congrArg Prod.fst (Option.some.inj hf), congrArg Prod.snd (Option.some.inj hf)⟩ dX4_passNights_64
    · have hf := iff_ hc hf
      refine lv_aload_n C.1 C.2.1 dX4_passNights_31 rfl (lv_at hl 0 rfl) ?_
      refine g_get C E hw inW4 0 rfl rfl 7 (by decide) kf_X4_16 rfl dX4_passNights_32 ?_
      refine lv_iload_n C.1 C.2.1 dX4_passNights_35 rfl (lv_at hl 2 rfl) ?_
      refine lv_aload_n C.1 C.2.1 dX4_passNights_36 rfl (lv_at hl 0 rfl) ?_
      refine lv_iload_n C.1 C.2.1 dX4_passNights_37 rfl (lv_at hl 2 rfl) ?_
      refine lv_iload_n C.1 C.2.1 dX4_passNights_38 rfl (lv_at hl 1 rfl) ?_
      obtain ⟨v_8, hv_8, hf⟩ := bnd hf
      refine g_cie (wf := (mw cI q)) (S := S) (rest := [.int x2, .ref (q 3)]) mw_adr hw (g_runV (rm := ({ frames := 1, cells := 0, slots := 0, locals := 21 } : Room)) (As := [.int x2, .int x1]) (rest := [.int x2, .ref (q 3)]) C E hw F_X4_later (ctX4_later l (cI := cI) (D := D) (q := q) S x2 x1 _ hv_8) km_X4_96 0 rfl rfl rfl hl.1 rfl (Nat.le_of_ble_eq_true rfl) ⟨(Nat.le_of_ble_eq_true rfl), (Nat.le_of_ble_eq_true rfl)⟩ ⟨(Nat.le_of_ble_eq_true rfl), (Nat.le_of_ble_eq_true rfl)⟩ dX4_passNights_39) (fun H locs hw => ?_)
      obtain ⟨S_9, hS_9, hf⟩ := bnd hf
      refine g_ast C E hw 3 rfl (sto_some hS_9).1 (ws' := (mw cI q) S_9) (by rw [← (sto_some hS_9).2]; rfl) dX4_passNights_42 (fun H locs hw => ?_)
      obtain ⟨x2_10, hx2_10, hf⟩ := bnd hf
      refine lv_iinc (v := x2_10) (lv' := [(2, .int x2_10), (0, .ref (q 0)), (1, .int x1)]) C.1 C.2.1 dX4_passNights_43 hl (k := 2) rfl (inc1 hx2_10) (by decide) rfl (fun ls hl => ?_)
      refine lv_goto (tgt := 23) C.1 C.2.1 dX4_passNights_46 (by decide) ?_
      exact ih S_9 x2_10 hf _ _ _ hw (lv_sub hl [1, 2, 0] rfl)
def fX4_passNights (S : St) (x1 : Int32) : Option (Int32 × St) :=
  Option.bind (some (up S 10 0 0)) fun S_1 =>
  Option.bind (fX4_isIn x1 1 30) fun v_2 =>
  if v_2 = 0 then
    Option.bind (fX4_fail S_1 1) fun u_5 => pr u_5 fun v_3 S_4 =>
    some (v_3, S_4)
  else
    fX4_passNights_23 x1 100 S_1 0
set_option maxHeartbeats 4000000 in
set_option maxRecDepth 100000 in
theorem ctX4_passNights (l : Launch) {D : va_G} {cI : ClassId} {q : Nat → Nat} (S : St) (x1 : Int32) (sz : Nat) {r1 : Int32} {S1 : St} (hf : fX4_passNights S x1 = some (r1, S1)) : Met l yX4_passNights (Cond.code yX4_passNights cX4_passNights 3 (some .int) :: XALL) ({ frames := 3, cells := 0, slots := 0, locals := 67 } : Room) (va_Pc [.ref (q 0), .int x1] (gPre D cI ((mw cI q) S) sz)) (gQi D (mw cI q) S (fun (r : Int32) (u : St) => r = r1 ∧ u = S1) sz) 0 0 (va_A ((mw cI q) S) sz) := by
  unfold fX4_passNights at hf
  refine Met.ofW (cc := cX4_passNights) (maxL := 3) (ret := (some .int)) (by decide) rfl ?_
  intro p e s m args below meth c s₁ B hml hv
  obtain ⟨rfl, hg⟩ := hv
  have C : Ctx p s m _ meth c cX4_passNights 3 RX4 (some .int) := Ctx.of B hml rfl
  obtain ⟨E, hw, hsz⟩ := g_start hg
  subst hsz
  have hl := lv_entry ([.ref (q 0), .int x1]) (n := 3) (Nat.le_of_ble_eq_true rfl)
  rw [lg_entry_eq]
  generalize (lg_sl ([.ref (q 0), .int x1]) ++ List.replicate (3 - (lg_sl ([.ref (q 0), .int x1])).length) Slot.unset).toArray = ls at hl ⊢
  have hl : lv_has ls 3 [(0, .ref (q 0)), (1, .int x1)] := hl
  refine lv_aload_n C.1 C.2.1 dX4_passNights_0 rfl (lv_at hl 0 rfl) ?_
  refine lv_iconst (v := 0) C.1 C.2.1 dX4_passNights_1 (by decide) ?_
  obtain ⟨S_1, hS_1, hf⟩ := bnd hf
  refine g_put C E hw inW4 tyX4 tyX4_ok nmX4 0 rfl rfl 0 (by decide) kf_X4_40 rfl (by decide +kernel) (Nat.le_of_ble_eq_true rfl) (ws' := (mw cI q) S_1) (by rw [← Option.some.inj hS_1]; rfl) dX4_passNights_2 (fun H locs hw => ?_)
  refine lv_iload_n C.1 C.2.1 dX4_passNights_5 rfl (lv_at hl 1 rfl) ?_
  refine lv_iconst (v := 1) C.1 C.2.1 dX4_passNights_6 (by decide) ?_
  refine lv_bipush (v := 30) C.1 C.2.1 dX4_passNights_7 (by decide) ?_
  obtain ⟨v_2, hv_2, hf⟩ := bnd hf
  refine g_ci0e (rest := []) hw (g_run0 (rm := ({ frames := 0, cells := 0, slots := 0, locals := 0 } : Room)) (As := [.int x1, .int 1, .int 30]) (rest := []) C F_X4_isIn (ctX4_isIn l x1 1 30 hv_2) km_X4_47 rfl hl.1 rfl (Nat.le_of_ble_eq_true rfl) ⟨(Nat.le_of_ble_eq_true rfl), (Nat.le_of_ble_eq_true rfl)⟩ ⟨(Nat.le_of_ble_eq_true rfl), (Nat.le_of_ble_eq_true rfl)⟩ dX4_passNights_9) (fun H locs hw => ?_)
  refine lv_if_ne (tgt := 21) C.1 C.2.1 dX4_passNights_12 (by decide) (fun hc => ?_) (fun hc => ?_)
  · have hf := iff_ hc hf
    refine lv_iconst (v := 0) C.1 C.2.1 dX4_passNights_21 (by decide) ?_
    refine lv_istore_n (lv' := [(2, .int 0), (0, .ref (q 0)), (1, .int x1)]) C.1 C.2.1 dX4_passNights_22 rfl hl (by decide) rfl (fun ls hl => ?_)
    exact wX4_passNights_23 C E x1 100 S_1 0 hf _ _ _ hw (lv_sub hl [1, 2, 0] rfl)
  · have hf := ift hc hf
    refine lv_aload_n C.1 C.2.1 dX4_passNights_15 rfl (lv_at hl 0 rfl) ?_
    refine lv_iconst (v := 1) C.1 C.2.1 dX4_passNights_16 (by decide) ?_
    obtain ⟨⟨v_3, S_4⟩, hu_5, hf⟩ := bnd hf
    have hf := pr_r hf
    refine g_cie (wf := (mw cI q)) (S := S_1) (rest := []) mw_adr hw (g_runV (rm := ({ frames := 0, cells := 0, slots := 0, locals := 0 } : Room)) (As := [.int 1]) (rest := []) C E hw F_X4_fail (ctX4_fail l (cI := cI) (D := D) (q := q) S_1 1 _ hu_5) km_X4_68 0 rfl rfl rfl hl.1 rfl (Nat.le_of_ble_eq_true rfl) ⟨(Nat.le_of_ble_eq_true rfl), (Nat.le_of_ble_eq_true rfl)⟩ ⟨(Nat.le_of_ble_eq_true rfl), (Nat.le_of_ble_eq_true rfl)⟩ dX4_passNights_17) (fun H locs hw => ?_)
    exact g_iret C hw (Nat.le_of_ble_eq_true rfl) (Nat.le_of_ble_eq_true rfl) ⟨congrArg Prod.fst (Option.some.inj hf), congrArg Prod.snd (Option.some.inj hf)⟩ dX4_passNights_20
/-! DreamLedgerModel.add -/
def fX4_add (S : St) (x1 : Int32) (x2 : Int32) (x3 : Int32) : Option (Int32 × St) :=
  if (S 13 0) = 20 then
    Option.bind (fX4_fail S 2) fun u_7 => pr u_7 fun v_5 S_6 =>
    some (v_5, S_6)
  else
    Option.bind (sto S 4 20 (S 13 0) x1) fun S_1 =>
    Option.bind (sto S_1 5 20 (S_1 13 0) x2) fun S_2 =>
    Option.bind (sto S_2 6 20 (S_2 13 0) x3) fun S_3 =>
    Option.bind (some (up S_3 13 0 ((S_3 13 0) + 1))) fun S_4 =>
    some (((S_4 13 0) - 1), S_4)
set_option maxHeartbeats 4000000 in
set_option maxRecDepth 100000 in
theorem ctX4_add (l : Launch) {D : va_G} {cI : ClassId} {q : Nat → Nat} (S : St) (x1 : Int32) (x2 : Int32) (x3 : Int32) (sz : Nat) {r1 : Int32} {S1 : St} (hf : fX4_add S x1 x2 x3 = some (r1, S1)) : Met l yX4_add (Cond.code yX4_add cX4_add 4 (some .int) :: XALL) ({ frames := 1, cells := 0, slots := 0, locals := 21 } : Room) (va_Pc [.ref (q 0), .int x1, .int x2, .int x3] (gPre D cI ((mw cI q) S) sz)) (gQi D (mw cI q) S (fun (r : Int32) (u : St) => r = r1 ∧ u = S1) sz) 0 0 (va_A ((mw cI q) S) sz) := by
  unfold fX4_add at hf
  refine Met.ofW (cc := cX4_add) (maxL := 4) (ret := (some .int)) (by decide) rfl ?_
  intro p e s m args below meth c s₁ B hml hv
  obtain ⟨rfl, hg⟩ := hv
  have C : Ctx p s m _ meth c cX4_add 4 RX4 (some .int) := Ctx.of B hml rfl
  obtain ⟨E, hw, hsz⟩ := g_start hg
  subst hsz
  have hl := lv_entry ([.ref (q 0), .int x1, .int x2, .int x3]) (n := 4) (Nat.le_of_ble_eq_true rfl)
  rw [lg_entry_eq]
  generalize (lg_sl ([.ref (q 0), .int x1, .int x2, .int x3]) ++ List.replicate (4 - (lg_sl ([.ref (q 0), .int x1, .int x2, .int x3])).length) Slot.unset).toArray = ls at hl ⊢
  have hl : lv_has ls 4 [(0, .ref (q 0)), (1, .int x1), (2, .int x2), (3, .int x3)] := hl
  refine lv_aload_n C.1 C.2.1 dX4_add_0 rfl (lv_at hl 0 rfl) ?_
  refine g_get C E hw inW4 0 rfl rfl 3 (by decide) kf_X4_54 rfl dX4_add_1 ?_
  refine lv_bipush (v := 20) C.1 C.2.1 dX4_add_4 (by decide) ?_
  refine lv_icmp_ne (tgt := 15) C.1 C.2.1 dX4_add_6 (by decide) (fun hc => ?_) (fun hc => ?_)
  · have hf := iff_ hc hf
    refine lv_aload_n C.1 C.2.1 dX4_add_15 rfl (lv_at hl 0 rfl) ?_
    refine g_get C E hw inW4 0 rfl rfl 9 (by decide) kf_X4_22 rfl dX4_add_16 ?_
    refine lv_aload_n C.1 C.2.1 dX4_add_19 rfl (lv_at hl 0 rfl) ?_
    refine g_get C E hw inW4 0 rfl rfl 3 (by decide) kf_X4_54 rfl dX4_add_20 ?_
    refine lv_iload_n C.1 C.2.1 dX4_add_23 rfl (lv_at hl 1 rfl) ?_
    obtain ⟨S_1, hS_1, hf⟩ := bnd hf
    refine g_ast C E hw 5 rfl (sto_some hS_1).1 (ws' := (mw cI q) S_1) (by rw [← (sto_some hS_1).2]; rfl) dX4_add_24 (fun H locs hw => ?_)
    refine lv_aload_n C.1 C.2.1 dX4_add_25 rfl (lv_at hl 0 rfl) ?_
    refine g_get C E hw inW4 0 rfl rfl 10 (by decide) kf_X4_25 rfl dX4_add_26 ?_
    refine lv_aload_n C.1 C.2.1 dX4_add_29 rfl (lv_at hl 0 rfl) ?_
    refine g_get C E hw inW4 0 rfl rfl 3 (by decide) kf_X4_54 rfl dX4_add_30 ?_
    refine lv_iload_n C.1 C.2.1 dX4_add_33 rfl (lv_at hl 2 rfl) ?_
    obtain ⟨S_2, hS_2, hf⟩ := bnd hf
    refine g_ast C E hw 6 rfl (sto_some hS_2).1 (ws' := (mw cI q) S_2) (by rw [← (sto_some hS_2).2]; rfl) dX4_add_34 (fun H locs hw => ?_)
    refine lv_aload_n C.1 C.2.1 dX4_add_35 rfl (lv_at hl 0 rfl) ?_
    refine g_get C E hw inW4 0 rfl rfl 11 (by decide) kf_X4_28 rfl dX4_add_36 ?_
    refine lv_aload_n C.1 C.2.1 dX4_add_39 rfl (lv_at hl 0 rfl) ?_
    refine g_get C E hw inW4 0 rfl rfl 3 (by decide) kf_X4_54 rfl dX4_add_40 ?_
    refine lv_iload_n C.1 C.2.1 dX4_add_43 rfl (lv_at hl 3 rfl) ?_
    obtain ⟨S_3, hS_3, hf⟩ := bnd hf
    refine g_ast C E hw 7 rfl (sto_some hS_3).1 (ws' := (mw cI q) S_3) (by rw [← (sto_some hS_3).2]; rfl) dX4_add_44 (fun H locs hw => ?_)
    refine lv_aload_n C.1 C.2.1 dX4_add_45 rfl (lv_at hl 0 rfl) ?_
    refine lv_dup C.1 C.2.1 dX4_add_46 rfl ?_
    refine g_get C E hw inW4 0 rfl rfl 3 (by decide) kf_X4_54 rfl dX4_add_47 ?_
    refine lv_iconst (v := 1) C.1 C.2.1 dX4_add_50 (by decide) ?_
    refine lv_iadd C.1 C.2.1 dX4_add_51 ?_
    obtain ⟨S_4, hS_4, hf⟩ := bnd hf
    refine g_put C E hw inW4 tyX4 tyX4_ok nmX4 0 rfl rfl 3 (by decide) kf_X4_54 rfl (by decide +kernel) (Nat.le_of_ble_eq_true rfl) (ws' := (mw cI q) S_4) (by rw [← Option.some.inj hS_4]; rfl) dX4_add_52 (fun H locs hw => ?_)
    refine lv_aload_n C.1 C.2.1 dX4_add_55 rfl (lv_at hl 0 rfl) ?_
    refine g_get C E hw inW4 0 rfl rfl 3 (by decide) kf_X4_54 rfl dX4_add_56 ?_
    refine lv_iconst (v := 1) C.1 C.2.1 dX4_add_59 (by decide) ?_
    refine lv_isub C.1 C.2.1 dX4_add_60 ?_
    exact g_iret C hw (Nat.le_of_ble_eq_true rfl) (Nat.le_of_ble_eq_true rfl) ⟨congrArg Prod.fst (Option.some.inj hf), congrArg Prod.snd (Option.some.inj hf)⟩ dX4_add_61
  · have hf := ift hc hf
    refine lv_aload_n C.1 C.2.1 dX4_add_9 rfl (lv_at hl 0 rfl) ?_
    refine lv_iconst (v := 2) C.1 C.2.1 dX4_add_10 (by decide) ?_
    obtain ⟨⟨v_5, S_6⟩, hu_7, hf⟩ := bnd hf
    have hf := pr_r hf
    refine g_cie (wf := (mw cI q)) (S := S) (rest := []) mw_adr hw (g_runV (rm := ({ frames := 0, cells := 0, slots := 0, locals := 0 } : Room)) (As := [.int 2]) (rest := []) C E hw F_X4_fail (ctX4_fail l (cI := cI) (D := D) (q := q) S 2 _ hu_7) km_X4_68 0 rfl rfl rfl hl.1 rfl (Nat.le_of_ble_eq_true rfl) ⟨(Nat.le_of_ble_eq_true rfl), (Nat.le_of_ble_eq_true rfl)⟩ ⟨(Nat.le_of_ble_eq_true rfl), (Nat.le_of_ble_eq_true rfl)⟩ dX4_add_11) (fun H locs hw => ?_)
    exact g_iret C hw (Nat.le_of_ble_eq_true rfl) (Nat.le_of_ble_eq_true rfl) ⟨congrArg Prod.fst (Option.some.inj hf), congrArg Prod.snd (Option.some.inj hf)⟩ dX4_add_14
/-! DreamLedgerModel.addTagTerm -/
def fX4_addTagTerm (S : St) (x1 : Int32) : Option (Int32 × St) :=
  Option.bind (some (up S 10 0 0)) fun S_1 =>
  Option.bind (fX4_isTag S_1 x1) fun v_2 =>
  if v_2 = 0 then
    Option.bind (fX4_fail S_1 1) fun u_5 => pr u_5 fun v_3 S_4 =>
    some (v_3, S_4)
  else
    Option.bind (fX4_add S_1 0 x1 0) fun u_8 => pr u_8 fun v_6 S_7 =>
    some (v_6, S_7)
set_option maxHeartbeats 4000000 in
set_option maxRecDepth 100000 in
theorem ctX4_addTagTerm (l : Launch) {D : va_G} {cI : ClassId} {q : Nat → Nat} (S : St) (x1 : Int32) (sz : Nat) {r1 : Int32} {S1 : St} (hf : fX4_addTagTerm S x1 = some (r1, S1)) : Met l yX4_addTagTerm (Cond.code yX4_addTagTerm cX4_addTagTerm 2 (some .int) :: XALL) ({ frames := 2, cells := 0, slots := 0, locals := 44 } : Room) (va_Pc [.ref (q 0), .int x1] (gPre D cI ((mw cI q) S) sz)) (gQi D (mw cI q) S (fun (r : Int32) (u : St) => r = r1 ∧ u = S1) sz) 0 0 (va_A ((mw cI q) S) sz) := by
  unfold fX4_addTagTerm at hf
  refine Met.ofW (cc := cX4_addTagTerm) (maxL := 2) (ret := (some .int)) (by decide) rfl ?_
  intro p e s m args below meth c s₁ B hml hv
  obtain ⟨rfl, hg⟩ := hv
  have C : Ctx p s m _ meth c cX4_addTagTerm 2 RX4 (some .int) := Ctx.of B hml rfl
  obtain ⟨E, hw, hsz⟩ := g_start hg
  subst hsz
  have hl := lv_entry ([.ref (q 0), .int x1]) (n := 2) (Nat.le_of_ble_eq_true rfl)
  rw [lg_entry_eq]
  generalize (lg_sl ([.ref (q 0), .int x1]) ++ List.replicate (2 - (lg_sl ([.ref (q 0), .int x1])).length) Slot.unset).toArray = ls at hl ⊢
  have hl : lv_has ls 2 [(0, .ref (q 0)), (1, .int x1)] := hl
  refine lv_aload_n C.1 C.2.1 dX4_addTagTerm_0 rfl (lv_at hl 0 rfl) ?_
  refine lv_iconst (v := 0) C.1 C.2.1 dX4_addTagTerm_1 (by decide) ?_
  obtain ⟨S_1, hS_1, hf⟩ := bnd hf
  refine g_put C E hw inW4 tyX4 tyX4_ok nmX4 0 rfl rfl 0 (by decide) kf_X4_40 rfl (by decide +kernel) (Nat.le_of_ble_eq_true rfl) (ws' := (mw cI q) S_1) (by rw [← Option.some.inj hS_1]; rfl) dX4_addTagTerm_2 (fun H locs hw => ?_)
  refine lv_aload_n C.1 C.2.1 dX4_addTagTerm_5 rfl (lv_at hl 0 rfl) ?_
  refine lv_iload_n C.1 C.2.1 dX4_addTagTerm_6 rfl (lv_at hl 1 rfl) ?_
  obtain ⟨v_2, hv_2, hf⟩ := bnd hf
  refine g_cie (wf := (mw cI q)) (S := S_1) (rest := []) mw_adr hw (g_runV (rm := ({ frames := 1, cells := 0, slots := 0, locals := 22 } : Room)) (As := [.int x1]) (rest := []) C E hw F_X4_isTag (ctX4_isTag l (cI := cI) (D := D) (q := q) S_1 x1 _ hv_2) km_X4_71 0 rfl rfl rfl hl.1 rfl (Nat.le_of_ble_eq_true rfl) ⟨(Nat.le_of_ble_eq_true rfl), (Nat.le_of_ble_eq_true rfl)⟩ ⟨(Nat.le_of_ble_eq_true rfl), (Nat.le_of_ble_eq_true rfl)⟩ dX4_addTagTerm_7) (fun H locs hw => ?_)
  refine lv_if_eq (tgt := 23) C.1 C.2.1 dX4_addTagTerm_10 (by decide) (fun hc => ?_) (fun hc => ?_)
  · have hf := ift hc hf
    refine lv_aload_n C.1 C.2.1 dX4_addTagTerm_23 rfl (lv_at hl 0 rfl) ?_
    refine lv_iconst (v := 1) C.1 C.2.1 dX4_addTagTerm_24 (by decide) ?_
    obtain ⟨⟨v_3, S_4⟩, hu_5, hf⟩ := bnd hf
    have hf := pr_r hf
    refine g_cie (wf := (mw cI q)) (S := S_1) (rest := []) mw_adr hw (g_runV (rm := ({ frames := 0, cells := 0, slots := 0, locals := 0 } : Room)) (As := [.int 1]) (rest := []) C E hw F_X4_fail (ctX4_fail l (cI := cI) (D := D) (q := q) S_1 1 _ hu_5) km_X4_68 0 rfl rfl rfl hl.1 rfl (Nat.le_of_ble_eq_true rfl) ⟨(Nat.le_of_ble_eq_true rfl), (Nat.le_of_ble_eq_true rfl)⟩ ⟨(Nat.le_of_ble_eq_true rfl), (Nat.le_of_ble_eq_true rfl)⟩ dX4_addTagTerm_25) (fun H locs hw => ?_)
    exact g_iret C hw (Nat.le_of_ble_eq_true rfl) (Nat.le_of_ble_eq_true rfl) ⟨congrArg Prod.fst (Option.some.inj hf), congrArg Prod.snd (Option.some.inj hf)⟩ dX4_addTagTerm_28
  · have hf := iff_ hc hf
    refine lv_aload_n C.1 C.2.1 dX4_addTagTerm_13 rfl (lv_at hl 0 rfl) ?_
    refine lv_iconst (v := 0) C.1 C.2.1 dX4_addTagTerm_14 (by decide) ?_
    refine lv_iload_n C.1 C.2.1 dX4_addTagTerm_15 rfl (lv_at hl 1 rfl) ?_
    refine lv_iconst (v := 0) C.1 C.2.1 dX4_addTagTerm_16 (by decide) ?_
    obtain ⟨⟨v_6, S_7⟩, hu_8, hf⟩ := bnd hf
    have hf := pr_r hf
    refine g_cie (wf := (mw cI q)) (S := S_1) (rest := []) mw_adr hw (g_runV (rm := ({ frames := 1, cells := 0, slots := 0, locals := 21 } : Room)) (As := [.int 0, .int x1, .int 0]) (rest := []) C E hw F_X4_add (ctX4_add l (cI := cI) (D := D) (q := q) S_1 0 x1 0 _ hu_8) km_X4_102 0 rfl rfl rfl hl.1 rfl (Nat.le_of_ble_eq_true rfl) ⟨(Nat.le_of_ble_eq_true rfl), (Nat.le_of_ble_eq_true rfl)⟩ ⟨(Nat.le_of_ble_eq_true rfl), (Nat.le_of_ble_eq_true rfl)⟩ dX4_addTagTerm_17) (fun H locs hw => ?_)
    refine lv_goto (tgt := 28) C.1 C.2.1 dX4_addTagTerm_20 (by decide) ?_
    exact g_iret C hw (Nat.le_of_ble_eq_true rfl) (Nat.le_of_ble_eq_true rfl) ⟨congrArg Prod.fst (Option.some.inj hf), congrArg Prod.snd (Option.some.inj hf)⟩ dX4_addTagTerm_28
/-! DreamLedgerModel.addBothTerm -/
def fX4_addBothTerm_31 (S : St) : Option (Int32 × St) :=
  Option.bind (fX4_fail S 1) fun u_9 => pr u_9 fun v_7 S_8 =>
  some (v_7, S_8)
set_option maxHeartbeats 4000000 in
set_option maxRecDepth 100000 in
theorem wX4_addBothTerm_31 {p : Program} {l : Launch} {e : Env} {s : State} {m : MethodId} {args : Array Value} {below : List Frame} {meth : Method} {c : Code} {D : va_G} {cI : ClassId} {q : Nat → Nat} (C : Ctx p s m args meth c cX4_addBothTerm 3 RX4 (some .int)) (E : gE D cI s) {S0 : St} {r1 : Int32} {S1 : St} : ∀ (S : St), fX4_addBothTerm_31 S = some (r1, S1) → ∀ (H : Heap) (locs : List Loc) (ls : Array Slot), gW D ((mw cI q) S0) ((mw cI q) S) s H locs → lv_has ls 3 [(0, .ref (q 0))] → W p l e ({ frames := 2, cells := 0, slots := 0, locals := 44 } : Room) s m args below meth c H locs 0 0 (MQ below (gQi D (mw cI q) S0 (fun (r : Int32) (u : St) => r = r1 ∧ u = S1) s.heap.size) args s 0 0 (va_A ((mw cI q) S0) s.heap.size)) (F0 m 31 ls []) := by
  intro S hf H locs ls hw hl
  unfold fX4_addBothTerm_31 at hf
  refine lv_aload_n C.1 C.2.1 dX4_addBothTerm_31 rfl (lv_at hl 0 rfl) ?_
  refine lv_iconst (v := 1) C.1 C.2.1 dX4_addBothTerm_32 (by decide) ?_
  obtain ⟨⟨v_7, S_8⟩, hu_9, hf⟩ := bnd hf
  have hf := pr_r hf
  refine g_cie (wf := (mw cI q)) (S := S) (rest := []) mw_adr hw (g_runV (rm := ({ frames := 0, cells := 0, slots := 0, locals := 0 } : Room)) (As := [.int 1]) (rest := []) C E hw F_X4_fail (ctX4_fail l (cI := cI) (D := D) (q := q) S 1 _ hu_9) km_X4_68 0 rfl rfl rfl hl.1 rfl (Nat.le_of_ble_eq_true rfl) ⟨(Nat.le_of_ble_eq_true rfl), (Nat.le_of_ble_eq_true rfl)⟩ ⟨(Nat.le_of_ble_eq_true rfl), (Nat.le_of_ble_eq_true rfl)⟩ dX4_addBothTerm_33) (fun H locs hw => ?_)
  exact g_iret C hw (Nat.le_of_ble_eq_true rfl) (Nat.le_of_ble_eq_true rfl) ⟨congrArg Prod.fst (Option.some.inj hf), congrArg Prod.snd (Option.some.inj hf)⟩ dX4_addBothTerm_36
def fX4_addBothTerm (S : St) (x1 : Int32) (x2 : Int32) : Option (Int32 × St) :=
  Option.bind (some (up S 10 0 0)) fun S_1 =>
  Option.bind (fX4_isTerm S_1 x1) fun v_2 =>
  if v_2 = 0 then
    fX4_addBothTerm_31 S_1
  else
    Option.bind (fX4_isTerm S_1 x2) fun v_3 =>
    if v_3 = 0 then
      fX4_addBothTerm_31 S_1
    else
      Option.bind (fX4_add S_1 1 x1 x2) fun u_6 => pr u_6 fun v_4 S_5 =>
      some (v_4, S_5)
set_option maxHeartbeats 4000000 in
set_option maxRecDepth 100000 in
theorem ctX4_addBothTerm (l : Launch) {D : va_G} {cI : ClassId} {q : Nat → Nat} (S : St) (x1 : Int32) (x2 : Int32) (sz : Nat) {r1 : Int32} {S1 : St} (hf : fX4_addBothTerm S x1 x2 = some (r1, S1)) : Met l yX4_addBothTerm (Cond.code yX4_addBothTerm cX4_addBothTerm 3 (some .int) :: XALL) ({ frames := 2, cells := 0, slots := 0, locals := 44 } : Room) (va_Pc [.ref (q 0), .int x1, .int x2] (gPre D cI ((mw cI q) S) sz)) (gQi D (mw cI q) S (fun (r : Int32) (u : St) => r = r1 ∧ u = S1) sz) 0 0 (va_A ((mw cI q) S) sz) := by
  unfold fX4_addBothTerm at hf
  refine Met.ofW (cc := cX4_addBothTerm) (maxL := 3) (ret := (some .int)) (by decide) rfl ?_
  intro p e s m args below meth c s₁ B hml hv
  obtain ⟨rfl, hg⟩ := hv
  have C : Ctx p s m _ meth c cX4_addBothTerm 3 RX4 (some .int) := Ctx.of B hml rfl
  obtain ⟨E, hw, hsz⟩ := g_start hg
  subst hsz
  have hl := lv_entry ([.ref (q 0), .int x1, .int x2]) (n := 3) (Nat.le_of_ble_eq_true rfl)
  rw [lg_entry_eq]
  generalize (lg_sl ([.ref (q 0), .int x1, .int x2]) ++ List.replicate (3 - (lg_sl ([.ref (q 0), .int x1, .int x2])).length) Slot.unset).toArray = ls at hl ⊢
  have hl : lv_has ls 3 [(0, .ref (q 0)), (1, .int x1), (2, .int x2)] := hl
  refine lv_aload_n C.1 C.2.1 dX4_addBothTerm_0 rfl (lv_at hl 0 rfl) ?_
  refine lv_iconst (v := 0) C.1 C.2.1 dX4_addBothTerm_1 (by decide) ?_
  obtain ⟨S_1, hS_1, hf⟩ := bnd hf
  refine g_put C E hw inW4 tyX4 tyX4_ok nmX4 0 rfl rfl 0 (by decide) kf_X4_40 rfl (by decide +kernel) (Nat.le_of_ble_eq_true rfl) (ws' := (mw cI q) S_1) (by rw [← Option.some.inj hS_1]; rfl) dX4_addBothTerm_2 (fun H locs hw => ?_)
  refine lv_aload_n C.1 C.2.1 dX4_addBothTerm_5 rfl (lv_at hl 0 rfl) ?_
  refine lv_iload_n C.1 C.2.1 dX4_addBothTerm_6 rfl (lv_at hl 1 rfl) ?_
  obtain ⟨v_2, hv_2, hf⟩ := bnd hf
  refine g_cie (wf := (mw cI q)) (S := S_1) (rest := []) mw_adr hw (g_runV (rm := ({ frames := 1, cells := 0, slots := 0, locals := 22 } : Room)) (As := [.int x1]) (rest := []) C E hw F_X4_isTerm (ctX4_isTerm l (cI := cI) (D := D) (q := q) S_1 x1 _ hv_2) km_X4_106 0 rfl rfl rfl hl.1 rfl (Nat.le_of_ble_eq_true rfl) ⟨(Nat.le_of_ble_eq_true rfl), (Nat.le_of_ble_eq_true rfl)⟩ ⟨(Nat.le_of_ble_eq_true rfl), (Nat.le_of_ble_eq_true rfl)⟩ dX4_addBothTerm_7) (fun H locs hw => ?_)
  refine lv_if_eq (tgt := 31) C.1 C.2.1 dX4_addBothTerm_10 (by decide) (fun hc => ?_) (fun hc => ?_)
  · have hf := ift hc hf
    exact wX4_addBothTerm_31 C E S_1 hf _ _ _ hw (lv_sub hl [0] rfl)
  · have hf := iff_ hc hf
    refine lv_aload_n C.1 C.2.1 dX4_addBothTerm_13 rfl (lv_at hl 0 rfl) ?_
    refine lv_iload_n C.1 C.2.1 dX4_addBothTerm_14 rfl (lv_at hl 2 rfl) ?_
    obtain ⟨v_3, hv_3, hf⟩ := bnd hf
    refine g_cie (wf := (mw cI q)) (S := S_1) (rest := []) mw_adr hw (g_runV (rm := ({ frames := 1, cells := 0, slots := 0, locals := 22 } : Room)) (As := [.int x2]) (rest := []) C E hw F_X4_isTerm (ctX4_isTerm l (cI := cI) (D := D) (q := q) S_1 x2 _ hv_3) km_X4_106 0 rfl rfl rfl hl.1 rfl (Nat.le_of_ble_eq_true rfl) ⟨(Nat.le_of_ble_eq_true rfl), (Nat.le_of_ble_eq_true rfl)⟩ ⟨(Nat.le_of_ble_eq_true rfl), (Nat.le_of_ble_eq_true rfl)⟩ dX4_addBothTerm_15) (fun H locs hw => ?_)
    refine lv_if_eq (tgt := 31) C.1 C.2.1 dX4_addBothTerm_18 (by decide) (fun hc => ?_) (fun hc => ?_)
    · have hf := ift hc hf
      exact wX4_addBothTerm_31 C E S_1 hf _ _ _ hw (lv_sub hl [0] rfl)
    · have hf := iff_ hc hf
      refine lv_aload_n C.1 C.2.1 dX4_addBothTerm_21 rfl (lv_at hl 0 rfl) ?_
      refine lv_iconst (v := 1) C.1 C.2.1 dX4_addBothTerm_22 (by decide) ?_
      refine lv_iload_n C.1 C.2.1 dX4_addBothTerm_23 rfl (lv_at hl 1 rfl) ?_
      refine lv_iload_n C.1 C.2.1 dX4_addBothTerm_24 rfl (lv_at hl 2 rfl) ?_
      obtain ⟨⟨v_4, S_5⟩, hu_6, hf⟩ := bnd hf
      have hf := pr_r hf
      refine g_cie (wf := (mw cI q)) (S := S_1) (rest := []) mw_adr hw (g_runV (rm := ({ frames := 1, cells := 0, slots := 0, locals := 21 } : Room)) (As := [.int 1, .int x1, .int x2]) (rest := []) C E hw F_X4_add (ctX4_add l (cI := cI) (D := D) (q := q) S_1 1 x1 x2 _ hu_6) km_X4_102 0 rfl rfl rfl hl.1 rfl (Nat.le_of_ble_eq_true rfl) ⟨(Nat.le_of_ble_eq_true rfl), (Nat.le_of_ble_eq_true rfl)⟩ ⟨(Nat.le_of_ble_eq_true rfl), (Nat.le_of_ble_eq_true rfl)⟩ dX4_addBothTerm_25) (fun H locs hw => ?_)
      refine lv_goto (tgt := 36) C.1 C.2.1 dX4_addBothTerm_28 (by decide) ?_
      exact g_iret C hw (Nat.le_of_ble_eq_true rfl) (Nat.le_of_ble_eq_true rfl) ⟨congrArg Prod.fst (Option.some.inj hf), congrArg Prod.snd (Option.some.inj hf)⟩ dX4_addBothTerm_36
/-! DreamLedgerModel.addEitherTerm -/
def fX4_addEitherTerm_31 (S : St) : Option (Int32 × St) :=
  Option.bind (fX4_fail S 1) fun u_9 => pr u_9 fun v_7 S_8 =>
  some (v_7, S_8)
set_option maxHeartbeats 4000000 in
set_option maxRecDepth 100000 in
theorem wX4_addEitherTerm_31 {p : Program} {l : Launch} {e : Env} {s : State} {m : MethodId} {args : Array Value} {below : List Frame} {meth : Method} {c : Code} {D : va_G} {cI : ClassId} {q : Nat → Nat} (C : Ctx p s m args meth c cX4_addEitherTerm 3 RX4 (some .int)) (E : gE D cI s) {S0 : St} {r1 : Int32} {S1 : St} : ∀ (S : St), fX4_addEitherTerm_31 S = some (r1, S1) → ∀ (H : Heap) (locs : List Loc) (ls : Array Slot), gW D ((mw cI q) S0) ((mw cI q) S) s H locs → lv_has ls 3 [(0, .ref (q 0))] → W p l e ({ frames := 2, cells := 0, slots := 0, locals := 44 } : Room) s m args below meth c H locs 0 0 (MQ below (gQi D (mw cI q) S0 (fun (r : Int32) (u : St) => r = r1 ∧ u = S1) s.heap.size) args s 0 0 (va_A ((mw cI q) S0) s.heap.size)) (F0 m 31 ls []) := by
  intro S hf H locs ls hw hl
  unfold fX4_addEitherTerm_31 at hf
  refine lv_aload_n C.1 C.2.1 dX4_addEitherTerm_31 rfl (lv_at hl 0 rfl) ?_
  refine lv_iconst (v := 1) C.1 C.2.1 dX4_addEitherTerm_32 (by decide) ?_
  obtain ⟨⟨v_7, S_8⟩, hu_9, hf⟩ := bnd hf
  have hf := pr_r hf
  refine g_cie (wf := (mw cI q)) (S := S) (rest := []) mw_adr hw (g_runV (rm := ({ frames := 0, cells := 0, slots := 0, locals := 0 } : Room)) (As := [.int 1]) (rest := []) C E hw F_X4_fail (ctX4_fail l (cI := cI) (D := D) (q := q) S 1 _ hu_9) km_X4_68 0 rfl rfl rfl hl.1 rfl (Nat.le_of_ble_eq_true rfl) ⟨(Nat.le_of_ble_eq_true rfl), (Nat.le_of_ble_eq_true rfl)⟩ ⟨(Nat.le_of_ble_eq_true rfl), (Nat.le_of_ble_eq_true rfl)⟩ dX4_addEitherTerm_33) (fun H locs hw => ?_)
  exact g_iret C hw (Nat.le_of_ble_eq_true rfl) (Nat.le_of_ble_eq_true rfl) ⟨congrArg Prod.fst (Option.some.inj hf), congrArg Prod.snd (Option.some.inj hf)⟩ dX4_addEitherTerm_36
def fX4_addEitherTerm (S : St) (x1 : Int32) (x2 : Int32) : Option (Int32 × St) :=
  Option.bind (some (up S 10 0 0)) fun S_1 =>
  Option.bind (fX4_isTerm S_1 x1) fun v_2 =>
  if v_2 = 0 then
    fX4_addEitherTerm_31 S_1
  else
    Option.bind (fX4_isTerm S_1 x2) fun v_3 =>
    if v_3 = 0 then
      fX4_addEitherTerm_31 S_1
    else
      Option.bind (fX4_add S_1 2 x1 x2) fun u_6 => pr u_6 fun v_4 S_5 =>
      some (v_4, S_5)
set_option maxHeartbeats 4000000 in
set_option maxRecDepth 100000 in
theorem ctX4_addEitherTerm (l : Launch) {D : va_G} {cI : ClassId} {q : Nat → Nat} (S : St) (x1 : Int32) (x2 : Int32) (sz : Nat) {r1 : Int32} {S1 : St} (hf : fX4_addEitherTerm S x1 x2 = some (r1, S1)) : Met l yX4_addEitherTerm (Cond.code yX4_addEitherTerm cX4_addEitherTerm 3 (some .int) :: XALL) ({ frames := 2, cells := 0, slots := 0, locals := 44 } : Room) (va_Pc [.ref (q 0), .int x1, .int x2] (gPre D cI ((mw cI q) S) sz)) (gQi D (mw cI q) S (fun (r : Int32) (u : St) => r = r1 ∧ u = S1) sz) 0 0 (va_A ((mw cI q) S) sz) := by
  unfold fX4_addEitherTerm at hf
  refine Met.ofW (cc := cX4_addEitherTerm) (maxL := 3) (ret := (some .int)) (by decide) rfl ?_
  intro p e s m args below meth c s₁ B hml hv
  obtain ⟨rfl, hg⟩ := hv
  have C : Ctx p s m _ meth c cX4_addEitherTerm 3 RX4 (some .int) := Ctx.of B hml rfl
  obtain ⟨E, hw, hsz⟩ := g_start hg
  subst hsz
  have hl := lv_entry ([.ref (q 0), .int x1, .int x2]) (n := 3) (Nat.le_of_ble_eq_true rfl)
  rw [lg_entry_eq]
  generalize (lg_sl ([.ref (q 0), .int x1, .int x2]) ++ List.replicate (3 - (lg_sl ([.ref (q 0), .int x1, .int x2])).length) Slot.unset).toArray = ls at hl ⊢
  have hl : lv_has ls 3 [(0, .ref (q 0)), (1, .int x1), (2, .int x2)] := hl
  refine lv_aload_n C.1 C.2.1 dX4_addEitherTerm_0 rfl (lv_at hl 0 rfl) ?_
  refine lv_iconst (v := 0) C.1 C.2.1 dX4_addEitherTerm_1 (by decide) ?_
  obtain ⟨S_1, hS_1, hf⟩ := bnd hf
  refine g_put C E hw inW4 tyX4 tyX4_ok nmX4 0 rfl rfl 0 (by decide) kf_X4_40 rfl (by decide +kernel) (Nat.le_of_ble_eq_true rfl) (ws' := (mw cI q) S_1) (by rw [← Option.some.inj hS_1]; rfl) dX4_addEitherTerm_2 (fun H locs hw => ?_)
  refine lv_aload_n C.1 C.2.1 dX4_addEitherTerm_5 rfl (lv_at hl 0 rfl) ?_
  refine lv_iload_n C.1 C.2.1 dX4_addEitherTerm_6 rfl (lv_at hl 1 rfl) ?_
  obtain ⟨v_2, hv_2, hf⟩ := bnd hf
  refine g_cie (wf := (mw cI q)) (S := S_1) (rest := []) mw_adr hw (g_runV (rm := ({ frames := 1, cells := 0, slots := 0, locals := 22 } : Room)) (As := [.int x1]) (rest := []) C E hw F_X4_isTerm (ctX4_isTerm l (cI := cI) (D := D) (q := q) S_1 x1 _ hv_2) km_X4_106 0 rfl rfl rfl hl.1 rfl (Nat.le_of_ble_eq_true rfl) ⟨(Nat.le_of_ble_eq_true rfl), (Nat.le_of_ble_eq_true rfl)⟩ ⟨(Nat.le_of_ble_eq_true rfl), (Nat.le_of_ble_eq_true rfl)⟩ dX4_addEitherTerm_7) (fun H locs hw => ?_)
  refine lv_if_eq (tgt := 31) C.1 C.2.1 dX4_addEitherTerm_10 (by decide) (fun hc => ?_) (fun hc => ?_)
  · have hf := ift hc hf
    exact wX4_addEitherTerm_31 C E S_1 hf _ _ _ hw (lv_sub hl [0] rfl)
  · have hf := iff_ hc hf
    refine lv_aload_n C.1 C.2.1 dX4_addEitherTerm_13 rfl (lv_at hl 0 rfl) ?_
    refine lv_iload_n C.1 C.2.1 dX4_addEitherTerm_14 rfl (lv_at hl 2 rfl) ?_
    obtain ⟨v_3, hv_3, hf⟩ := bnd hf
    refine g_cie (wf := (mw cI q)) (S := S_1) (rest := []) mw_adr hw (g_runV (rm := ({ frames := 1, cells := 0, slots := 0, locals := 22 } : Room)) (As := [.int x2]) (rest := []) C E hw F_X4_isTerm (ctX4_isTerm l (cI := cI) (D := D) (q := q) S_1 x2 _ hv_3) km_X4_106 0 rfl rfl rfl hl.1 rfl (Nat.le_of_ble_eq_true rfl) ⟨(Nat.le_of_ble_eq_true rfl), (Nat.le_of_ble_eq_true rfl)⟩ ⟨(Nat.le_of_ble_eq_true rfl), (Nat.le_of_ble_eq_true rfl)⟩ dX4_addEitherTerm_15) (fun H locs hw => ?_)
    refine lv_if_eq (tgt := 31) C.1 C.2.1 dX4_addEitherTerm_18 (by decide) (fun hc => ?_) (fun hc => ?_)
    · have hf := ift hc hf
      exact wX4_addEitherTerm_31 C E S_1 hf _ _ _ hw (lv_sub hl [0] rfl)
    · have hf := iff_ hc hf
      refine lv_aload_n C.1 C.2.1 dX4_addEitherTerm_21 rfl (lv_at hl 0 rfl) ?_
      refine lv_iconst (v := 2) C.1 C.2.1 dX4_addEitherTerm_22 (by decide) ?_
      refine lv_iload_n C.1 C.2.1 dX4_addEitherTerm_23 rfl (lv_at hl 1 rfl) ?_
      refine lv_iload_n C.1 C.2.1 dX4_addEitherTerm_24 rfl (lv_at hl 2 rfl) ?_
      obtain ⟨⟨v_4, S_5⟩, hu_6, hf⟩ := bnd hf
      have hf := pr_r hf
      refine g_cie (wf := (mw cI q)) (S := S_1) (rest := []) mw_adr hw (g_runV (rm := ({ frames := 1, cells := 0, slots := 0, locals := 21 } : Room)) (As := [.int 2, .int x1, .int x2]) (rest := []) C E hw F_X4_add (ctX4_add l (cI := cI) (D := D) (q := q) S_1 2 x1 x2 _ hu_6) km_X4_102 0 rfl rfl rfl hl.1 rfl (Nat.le_of_ble_eq_true rfl) ⟨(Nat.le_of_ble_eq_true rfl), (Nat.le_of_ble_eq_true rfl)⟩ ⟨(Nat.le_of_ble_eq_true rfl), (Nat.le_of_ble_eq_true rfl)⟩ dX4_addEitherTerm_25) (fun H locs hw => ?_)
      refine lv_goto (tgt := 36) C.1 C.2.1 dX4_addEitherTerm_28 (by decide) ?_
      exact g_iret C hw (Nat.le_of_ble_eq_true rfl) (Nat.le_of_ble_eq_true rfl) ⟨congrArg Prod.fst (Option.some.inj hf), congrArg Prod.snd (Option.some.inj hf)⟩ dX4_addEitherTerm_36
/-! DreamLedgerModel.addWithoutTerm -/
def fX4_addWithoutTerm (S : St) (x1 : Int32) : Option (Int32 × St) :=
  Option.bind (some (up S 10 0 0)) fun S_1 =>
  Option.bind (fX4_isTerm S_1 x1) fun v_2 =>
  if v_2 = 0 then
    Option.bind (fX4_fail S_1 1) fun u_5 => pr u_5 fun v_3 S_4 =>
    some (v_3, S_4)
  else
    Option.bind (fX4_add S_1 3 x1 0) fun u_8 => pr u_8 fun v_6 S_7 =>
    some (v_6, S_7)
set_option maxHeartbeats 4000000 in
set_option maxRecDepth 100000 in
theorem ctX4_addWithoutTerm (l : Launch) {D : va_G} {cI : ClassId} {q : Nat → Nat} (S : St) (x1 : Int32) (sz : Nat) {r1 : Int32} {S1 : St} (hf : fX4_addWithoutTerm S x1 = some (r1, S1)) : Met l yX4_addWithoutTerm (Cond.code yX4_addWithoutTerm cX4_addWithoutTerm 2 (some .int) :: XALL) ({ frames := 2, cells := 0, slots := 0, locals := 44 } : Room) (va_Pc [.ref (q 0), .int x1] (gPre D cI ((mw cI q) S) sz)) (gQi D (mw cI q) S (fun (r : Int32) (u : St) => r = r1 ∧ u = S1) sz) 0 0 (va_A ((mw cI q) S) sz) := by
  unfold fX4_addWithoutTerm at hf
  refine Met.ofW (cc := cX4_addWithoutTerm) (maxL := 2) (ret := (some .int)) (by decide) rfl ?_
  intro p e s m args below meth c s₁ B hml hv
  obtain ⟨rfl, hg⟩ := hv
  have C : Ctx p s m _ meth c cX4_addWithoutTerm 2 RX4 (some .int) := Ctx.of B hml rfl
  obtain ⟨E, hw, hsz⟩ := g_start hg
  subst hsz
  have hl := lv_entry ([.ref (q 0), .int x1]) (n := 2) (Nat.le_of_ble_eq_true rfl)
  rw [lg_entry_eq]
  generalize (lg_sl ([.ref (q 0), .int x1]) ++ List.replicate (2 - (lg_sl ([.ref (q 0), .int x1])).length) Slot.unset).toArray = ls at hl ⊢
  have hl : lv_has ls 2 [(0, .ref (q 0)), (1, .int x1)] := hl
  refine lv_aload_n C.1 C.2.1 dX4_addWithoutTerm_0 rfl (lv_at hl 0 rfl) ?_
  refine lv_iconst (v := 0) C.1 C.2.1 dX4_addWithoutTerm_1 (by decide) ?_
  obtain ⟨S_1, hS_1, hf⟩ := bnd hf
  refine g_put C E hw inW4 tyX4 tyX4_ok nmX4 0 rfl rfl 0 (by decide) kf_X4_40 rfl (by decide +kernel) (Nat.le_of_ble_eq_true rfl) (ws' := (mw cI q) S_1) (by rw [← Option.some.inj hS_1]; rfl) dX4_addWithoutTerm_2 (fun H locs hw => ?_)
  refine lv_aload_n C.1 C.2.1 dX4_addWithoutTerm_5 rfl (lv_at hl 0 rfl) ?_
  refine lv_iload_n C.1 C.2.1 dX4_addWithoutTerm_6 rfl (lv_at hl 1 rfl) ?_
  obtain ⟨v_2, hv_2, hf⟩ := bnd hf
  refine g_cie (wf := (mw cI q)) (S := S_1) (rest := []) mw_adr hw (g_runV (rm := ({ frames := 1, cells := 0, slots := 0, locals := 22 } : Room)) (As := [.int x1]) (rest := []) C E hw F_X4_isTerm (ctX4_isTerm l (cI := cI) (D := D) (q := q) S_1 x1 _ hv_2) km_X4_106 0 rfl rfl rfl hl.1 rfl (Nat.le_of_ble_eq_true rfl) ⟨(Nat.le_of_ble_eq_true rfl), (Nat.le_of_ble_eq_true rfl)⟩ ⟨(Nat.le_of_ble_eq_true rfl), (Nat.le_of_ble_eq_true rfl)⟩ dX4_addWithoutTerm_7) (fun H locs hw => ?_)
  refine lv_if_eq (tgt := 23) C.1 C.2.1 dX4_addWithoutTerm_10 (by decide) (fun hc => ?_) (fun hc => ?_)
  · have hf := ift hc hf
    refine lv_aload_n C.1 C.2.1 dX4_addWithoutTerm_23 rfl (lv_at hl 0 rfl) ?_
    refine lv_iconst (v := 1) C.1 C.2.1 dX4_addWithoutTerm_24 (by decide) ?_
    obtain ⟨⟨v_3, S_4⟩, hu_5, hf⟩ := bnd hf
    have hf := pr_r hf
    refine g_cie (wf := (mw cI q)) (S := S_1) (rest := []) mw_adr hw (g_runV (rm := ({ frames := 0, cells := 0, slots := 0, locals := 0 } : Room)) (As := [.int 1]) (rest := []) C E hw F_X4_fail (ctX4_fail l (cI := cI) (D := D) (q := q) S_1 1 _ hu_5) km_X4_68 0 rfl rfl rfl hl.1 rfl (Nat.le_of_ble_eq_true rfl) ⟨(Nat.le_of_ble_eq_true rfl), (Nat.le_of_ble_eq_true rfl)⟩ ⟨(Nat.le_of_ble_eq_true rfl), (Nat.le_of_ble_eq_true rfl)⟩ dX4_addWithoutTerm_25) (fun H locs hw => ?_)
    exact g_iret C hw (Nat.le_of_ble_eq_true rfl) (Nat.le_of_ble_eq_true rfl) ⟨congrArg Prod.fst (Option.some.inj hf), congrArg Prod.snd (Option.some.inj hf)⟩ dX4_addWithoutTerm_28
  · have hf := iff_ hc hf
    refine lv_aload_n C.1 C.2.1 dX4_addWithoutTerm_13 rfl (lv_at hl 0 rfl) ?_
    refine lv_iconst (v := 3) C.1 C.2.1 dX4_addWithoutTerm_14 (by decide) ?_
    refine lv_iload_n C.1 C.2.1 dX4_addWithoutTerm_15 rfl (lv_at hl 1 rfl) ?_
    refine lv_iconst (v := 0) C.1 C.2.1 dX4_addWithoutTerm_16 (by decide) ?_
    obtain ⟨⟨v_6, S_7⟩, hu_8, hf⟩ := bnd hf
    have hf := pr_r hf
    refine g_cie (wf := (mw cI q)) (S := S_1) (rest := []) mw_adr hw (g_runV (rm := ({ frames := 1, cells := 0, slots := 0, locals := 21 } : Room)) (As := [.int 3, .int x1, .int 0]) (rest := []) C E hw F_X4_add (ctX4_add l (cI := cI) (D := D) (q := q) S_1 3 x1 0 _ hu_8) km_X4_102 0 rfl rfl rfl hl.1 rfl (Nat.le_of_ble_eq_true rfl) ⟨(Nat.le_of_ble_eq_true rfl), (Nat.le_of_ble_eq_true rfl)⟩ ⟨(Nat.le_of_ble_eq_true rfl), (Nat.le_of_ble_eq_true rfl)⟩ dX4_addWithoutTerm_17) (fun H locs hw => ?_)
    refine lv_goto (tgt := 28) C.1 C.2.1 dX4_addWithoutTerm_20 (by decide) ?_
    exact g_iret C hw (Nat.le_of_ble_eq_true rfl) (Nat.le_of_ble_eq_true rfl) ⟨congrArg Prod.fst (Option.some.inj hf), congrArg Prod.snd (Option.some.inj hf)⟩ dX4_addWithoutTerm_28
/-! DreamLedgerModel.clearTerms -/
def fX4_clearTerms (S : St) : Option (Int32 × St) :=
  Option.bind (some (up S 10 0 0)) fun S_1 =>
  Option.bind (some ((S_1 13 0))) fun x1_2 =>
  Option.bind (some (up S_1 13 0 0)) fun S_3 =>
  some (x1_2, S_3)
set_option maxHeartbeats 4000000 in
set_option maxRecDepth 100000 in
theorem ctX4_clearTerms (l : Launch) {D : va_G} {cI : ClassId} {q : Nat → Nat} (S : St) (sz : Nat) {r1 : Int32} {S1 : St} (hf : fX4_clearTerms S = some (r1, S1)) : Met l yX4_clearTerms (Cond.code yX4_clearTerms cX4_clearTerms 2 (some .int) :: XALL) ({ frames := 0, cells := 0, slots := 0, locals := 0 } : Room) (va_Pc [.ref (q 0)] (gPre D cI ((mw cI q) S) sz)) (gQi D (mw cI q) S (fun (r : Int32) (u : St) => r = r1 ∧ u = S1) sz) 0 0 (va_A ((mw cI q) S) sz) := by
  unfold fX4_clearTerms at hf
  refine Met.ofW (cc := cX4_clearTerms) (maxL := 2) (ret := (some .int)) (by decide) rfl ?_
  intro p e s m args below meth c s₁ B hml hv
  obtain ⟨rfl, hg⟩ := hv
  have C : Ctx p s m _ meth c cX4_clearTerms 2 RX4 (some .int) := Ctx.of B hml rfl
  obtain ⟨E, hw, hsz⟩ := g_start hg
  subst hsz
  have hl := lv_entry ([.ref (q 0)]) (n := 2) (Nat.le_of_ble_eq_true rfl)
  rw [lg_entry_eq]
  generalize (lg_sl ([.ref (q 0)]) ++ List.replicate (2 - (lg_sl ([.ref (q 0)])).length) Slot.unset).toArray = ls at hl ⊢
  have hl : lv_has ls 2 [(0, .ref (q 0))] := hl
  refine lv_aload_n C.1 C.2.1 dX4_clearTerms_0 rfl (lv_at hl 0 rfl) ?_
  refine lv_iconst (v := 0) C.1 C.2.1 dX4_clearTerms_1 (by decide) ?_
  obtain ⟨S_1, hS_1, hf⟩ := bnd hf
  refine g_put C E hw inW4 tyX4 tyX4_ok nmX4 0 rfl rfl 0 (by decide) kf_X4_40 rfl (by decide +kernel) (Nat.le_of_ble_eq_true rfl) (ws' := (mw cI q) S_1) (by rw [← Option.some.inj hS_1]; rfl) dX4_clearTerms_2 (fun H locs hw => ?_)
  refine lv_aload_n C.1 C.2.1 dX4_clearTerms_5 rfl (lv_at hl 0 rfl) ?_
  refine g_get C E hw inW4 0 rfl rfl 3 (by decide) kf_X4_54 rfl dX4_clearTerms_6 ?_
  obtain ⟨x1_2, hx1_2, hf⟩ := bnd hf
  refine topi_b hx1_2 ?_
  refine lv_istore_n (lv' := [(1, .int x1_2), (0, .ref (q 0))]) C.1 C.2.1 dX4_clearTerms_9 rfl hl (by decide) rfl (fun ls hl => ?_)
  refine lv_aload_n C.1 C.2.1 dX4_clearTerms_10 rfl (lv_at hl 1 rfl) ?_
  refine lv_iconst (v := 0) C.1 C.2.1 dX4_clearTerms_11 (by decide) ?_
  obtain ⟨S_3, hS_3, hf⟩ := bnd hf
  refine g_put C E hw inW4 tyX4 tyX4_ok nmX4 0 rfl rfl 3 (by decide) kf_X4_54 rfl (by decide +kernel) (Nat.le_of_ble_eq_true rfl) (ws' := (mw cI q) S_3) (by rw [← Option.some.inj hS_3]; rfl) dX4_clearTerms_12 (fun H locs hw => ?_)
  refine lv_iload_n C.1 C.2.1 dX4_clearTerms_15 rfl (lv_at hl 0 rfl) ?_
  exact g_iret C hw (Nat.le_of_ble_eq_true rfl) (Nat.le_of_ble_eq_true rfl) ⟨congrArg Prod.fst (Option.some.inj hf), congrArg Prod.snd (Option.some.inj hf)⟩ dX4_clearTerms_16
/-! DreamLedgerModel.hasParent -/
def fX4_hasParent (S : St) (x1 : Int32) : Option (Int32 × St) :=
  Option.bind (some (up S 10 0 0)) fun S_1 =>
  Option.bind (fX4_isTag S_1 x1) fun v_2 =>
  if v_2 = 0 then
    Option.bind (fX4_failed S_1 1) fun u_5 => pr u_5 fun v_3 S_4 =>
    Option.bind (zg v_3) fun v_6 =>
    some (v_6, S_4)
  else
    Option.bind (ld S_1 0 16 x1) fun v_7 =>
    if v_7 = (-1) then
      some (0, S_1)
    else
      some (1, S_1)
set_option maxHeartbeats 4000000 in
set_option maxRecDepth 100000 in
theorem ctX4_hasParent (l : Launch) {D : va_G} {cI : ClassId} {q : Nat → Nat} (S : St) (x1 : Int32) (sz : Nat) {r1 : Int32} {S1 : St} (hf : fX4_hasParent S x1 = some (r1, S1)) : Met l yX4_hasParent (Cond.code yX4_hasParent cX4_hasParent 2 (some .boolean) :: XALL) ({ frames := 2, cells := 0, slots := 0, locals := 43 } : Room) (va_Pc [.ref (q 0), .int x1] (gPre D cI ((mw cI q) S) sz)) (gQi D (mw cI q) S (fun (r : Int32) (u : St) => r = r1 ∧ u = S1) sz) 0 0 (va_A ((mw cI q) S) sz) := by
  unfold fX4_hasParent at hf
  refine Met.ofW (cc := cX4_hasParent) (maxL := 2) (ret := (some .boolean)) (by decide) rfl ?_
  intro p e s m args below meth c s₁ B hml hv
  obtain ⟨rfl, hg⟩ := hv
  have C : Ctx p s m _ meth c cX4_hasParent 2 RX4 (some .boolean) := Ctx.of B hml rfl
  obtain ⟨E, hw, hsz⟩ := g_start hg
  subst hsz
  have hl := lv_entry ([.ref (q 0), .int x1]) (n := 2) (Nat.le_of_ble_eq_true rfl)
  rw [lg_entry_eq]
  generalize (lg_sl ([.ref (q 0), .int x1]) ++ List.replicate (2 - (lg_sl ([.ref (q 0), .int x1])).length) Slot.unset).toArray = ls at hl ⊢
  have hl : lv_has ls 2 [(0, .ref (q 0)), (1, .int x1)] := hl
  refine lv_aload_n C.1 C.2.1 dX4_hasParent_0 rfl (lv_at hl 0 rfl) ?_
  refine lv_iconst (v := 0) C.1 C.2.1 dX4_hasParent_1 (by decide) ?_
  obtain ⟨S_1, hS_1, hf⟩ := bnd hf
  refine g_put C E hw inW4 tyX4 tyX4_ok nmX4 0 rfl rfl 0 (by decide) kf_X4_40 rfl (by decide +kernel) (Nat.le_of_ble_eq_true rfl) (ws' := (mw cI q) S_1) (by rw [← Option.some.inj hS_1]; rfl) dX4_hasParent_2 (fun H locs hw => ?_)
  refine lv_aload_n C.1 C.2.1 dX4_hasParent_5 rfl (lv_at hl 0 rfl) ?_
  refine lv_iload_n C.1 C.2.1 dX4_hasParent_6 rfl (lv_at hl 1 rfl) ?_
  obtain ⟨v_2, hv_2, hf⟩ := bnd hf
  refine g_cie (wf := (mw cI q)) (S := S_1) (rest := []) mw_adr hw (g_runV (rm := ({ frames := 1, cells := 0, slots := 0, locals := 22 } : Room)) (As := [.int x1]) (rest := []) C E hw F_X4_isTag (ctX4_isTag l (cI := cI) (D := D) (q := q) S_1 x1 _ hv_2) km_X4_71 0 rfl rfl rfl hl.1 rfl (Nat.le_of_ble_eq_true rfl) ⟨(Nat.le_of_ble_eq_true rfl), (Nat.le_of_ble_eq_true rfl)⟩ ⟨(Nat.le_of_ble_eq_true rfl), (Nat.le_of_ble_eq_true rfl)⟩ dX4_hasParent_7) (fun H locs hw => ?_)
  refine lv_if_eq (tgt := 31) C.1 C.2.1 dX4_hasParent_10 (by decide) (fun hc => ?_) (fun hc => ?_)
  · have hf := ift hc hf
    refine lv_aload_n C.1 C.2.1 dX4_hasParent_31 rfl (lv_at hl 0 rfl) ?_
    refine lv_iconst (v := 1) C.1 C.2.1 dX4_hasParent_32 (by decide) ?_
    obtain ⟨⟨v_3, S_4⟩, hu_5, hf⟩ := bnd hf
    have hf := pr_r hf
    refine g_cie (wf := (mw cI q)) (S := S_1) (rest := []) mw_adr hw (g_runV (rm := ({ frames := 0, cells := 0, slots := 0, locals := 0 } : Room)) (As := [.int 1]) (rest := []) C E hw F_X4_failed (ctX4_failed l (cI := cI) (D := D) (q := q) S_1 1 _ hu_5) km_X4_109 0 rfl rfl rfl hl.1 rfl (Nat.le_of_ble_eq_true rfl) ⟨(Nat.le_of_ble_eq_true rfl), (Nat.le_of_ble_eq_true rfl)⟩ ⟨(Nat.le_of_ble_eq_true rfl), (Nat.le_of_ble_eq_true rfl)⟩ dX4_hasParent_33) (fun H locs hw => ?_)
    obtain ⟨v_6, hv_6, hf⟩ := bnd hf
    rw [(zg_some hv_6).1]
    exact g_zret C hw (Nat.le_of_ble_eq_true rfl) (Nat.le_of_ble_eq_true rfl) (zg_some hv_6).2 ⟨congrArg Prod.fst (Option.some.inj hf), congrArg Prod.snd (Option.some.inj hf)⟩ dX4_hasParent_36
  · have hf := iff_ hc hf
    refine lv_aload_n C.1 C.2.1 dX4_hasParent_13 rfl (lv_at hl 0 rfl) ?_
    refine g_get C E hw inW4 0 rfl rfl 5 (by decide) kf_X4_9 rfl dX4_hasParent_14 ?_
    refine lv_iload_n C.1 C.2.1 dX4_hasParent_17 rfl (lv_at hl 1 rfl) ?_
    obtain ⟨v_7, hv_7, hf⟩ := bnd hf
    refine g_ald C E hw 1 rfl (ld_some hv_7) dX4_hasParent_18 ?_
    refine lv_iconst (v := (-1)) C.1 C.2.1 dX4_hasParent_19 (by decide) ?_
    refine lv_icmp_eq (tgt := 27) C.1 C.2.1 dX4_hasParent_20 (by decide) (fun hc => ?_) (fun hc => ?_)
    · have hf := ift hc hf
      refine lv_iconst (v := 0) C.1 C.2.1 dX4_hasParent_27 (by decide) ?_
      refine lv_goto (tgt := 36) C.1 C.2.1 dX4_hasParent_28 (by decide) ?_
      exact g_zret C hw (Nat.le_of_ble_eq_true rfl) (Nat.le_of_ble_eq_true rfl) (Or.inl rfl) ⟨congrArg Prod.fst (Option.some.inj hf), congrArg Prod.snd (Option.some.inj hf)⟩ dX4_hasParent_36
    · have hf := iff_ hc hf
      refine lv_iconst (v := 1) C.1 C.2.1 dX4_hasParent_23 (by decide) ?_
      refine lv_goto (tgt := 36) C.1 C.2.1 dX4_hasParent_24 (by decide) ?_
      exact g_zret C hw (Nat.le_of_ble_eq_true rfl) (Nat.le_of_ble_eq_true rfl) (Or.inr rfl) ⟨congrArg Prod.fst (Option.some.inj hf), congrArg Prod.snd (Option.some.inj hf)⟩ dX4_hasParent_36
/-! DreamLedgerModel.parentOf -/
def fX4_parentOf (S : St) (x1 : Int32) : Option (Int32 × St) :=
  Option.bind (some (up S 10 0 0)) fun S_1 =>
  Option.bind (fX4_isTag S_1 x1) fun v_2 =>
  if v_2 = 0 then
    Option.bind (fX4_fail S_1 1) fun u_10 => pr u_10 fun v_8 S_9 =>
    some (v_8, S_9)
  else
    Option.bind (ld S_1 0 16 x1) fun v_3 =>
    if v_3 = (-1) then
      Option.bind (fX4_fail S_1 2) fun u_7 => pr u_7 fun v_5 S_6 =>
      some (v_5, S_6)
    else
      Option.bind (ld S_1 0 16 x1) fun v_4 =>
      some (v_4, S_1)
set_option maxHeartbeats 4000000 in
set_option maxRecDepth 100000 in
theorem ctX4_parentOf (l : Launch) {D : va_G} {cI : ClassId} {q : Nat → Nat} (S : St) (x1 : Int32) (sz : Nat) {r1 : Int32} {S1 : St} (hf : fX4_parentOf S x1 = some (r1, S1)) : Met l yX4_parentOf (Cond.code yX4_parentOf cX4_parentOf 2 (some .int) :: XALL) ({ frames := 2, cells := 0, slots := 0, locals := 43 } : Room) (va_Pc [.ref (q 0), .int x1] (gPre D cI ((mw cI q) S) sz)) (gQi D (mw cI q) S (fun (r : Int32) (u : St) => r = r1 ∧ u = S1) sz) 0 0 (va_A ((mw cI q) S) sz) := by
  unfold fX4_parentOf at hf
  refine Met.ofW (cc := cX4_parentOf) (maxL := 2) (ret := (some .int)) (by decide) rfl ?_
  intro p e s m args below meth c s₁ B hml hv
  obtain ⟨rfl, hg⟩ := hv
  have C : Ctx p s m _ meth c cX4_parentOf 2 RX4 (some .int) := Ctx.of B hml rfl
  obtain ⟨E, hw, hsz⟩ := g_start hg
  subst hsz
  have hl := lv_entry ([.ref (q 0), .int x1]) (n := 2) (Nat.le_of_ble_eq_true rfl)
  rw [lg_entry_eq]
  generalize (lg_sl ([.ref (q 0), .int x1]) ++ List.replicate (2 - (lg_sl ([.ref (q 0), .int x1])).length) Slot.unset).toArray = ls at hl ⊢
  have hl : lv_has ls 2 [(0, .ref (q 0)), (1, .int x1)] := hl
  refine lv_aload_n C.1 C.2.1 dX4_parentOf_0 rfl (lv_at hl 0 rfl) ?_
  refine lv_iconst (v := 0) C.1 C.2.1 dX4_parentOf_1 (by decide) ?_
  obtain ⟨S_1, hS_1, hf⟩ := bnd hf
  refine g_put C E hw inW4 tyX4 tyX4_ok nmX4 0 rfl rfl 0 (by decide) kf_X4_40 rfl (by decide +kernel) (Nat.le_of_ble_eq_true rfl) (ws' := (mw cI q) S_1) (by rw [← Option.some.inj hS_1]; rfl) dX4_parentOf_2 (fun H locs hw => ?_)
  refine lv_aload_n C.1 C.2.1 dX4_parentOf_5 rfl (lv_at hl 0 rfl) ?_
  refine lv_iload_n C.1 C.2.1 dX4_parentOf_6 rfl (lv_at hl 1 rfl) ?_
  obtain ⟨v_2, hv_2, hf⟩ := bnd hf
  refine g_cie (wf := (mw cI q)) (S := S_1) (rest := []) mw_adr hw (g_runV (rm := ({ frames := 1, cells := 0, slots := 0, locals := 22 } : Room)) (As := [.int x1]) (rest := []) C E hw F_X4_isTag (ctX4_isTag l (cI := cI) (D := D) (q := q) S_1 x1 _ hv_2) km_X4_71 0 rfl rfl rfl hl.1 rfl (Nat.le_of_ble_eq_true rfl) ⟨(Nat.le_of_ble_eq_true rfl), (Nat.le_of_ble_eq_true rfl)⟩ ⟨(Nat.le_of_ble_eq_true rfl), (Nat.le_of_ble_eq_true rfl)⟩ dX4_parentOf_7) (fun H locs hw => ?_)
  refine lv_if_ne (tgt := 19) C.1 C.2.1 dX4_parentOf_10 (by decide) (fun hc => ?_) (fun hc => ?_)
  · have hf := iff_ hc hf
    refine lv_aload_n C.1 C.2.1 dX4_parentOf_19 rfl (lv_at hl 0 rfl) ?_
    refine g_get C E hw inW4 0 rfl rfl 5 (by decide) kf_X4_9 rfl dX4_parentOf_20 ?_
    refine lv_iload_n C.1 C.2.1 dX4_parentOf_23 rfl (lv_at hl 1 rfl) ?_
    obtain ⟨v_3, hv_3, hf⟩ := bnd hf
    refine g_ald C E hw 1 rfl (ld_some hv_3) dX4_parentOf_24 ?_
    refine lv_iconst (v := (-1)) C.1 C.2.1 dX4_parentOf_25 (by decide) ?_
    refine lv_icmp_ne (tgt := 37) C.1 C.2.1 dX4_parentOf_26 (by decide) (fun hc => ?_) (fun hc => ?_)
    · have hf := iff_ hc hf
      refine lv_aload_n C.1 C.2.1 dX4_parentOf_37 rfl (lv_at hl 0 rfl) ?_
      refine g_get C E hw inW4 0 rfl rfl 5 (by decide) kf_X4_9 rfl dX4_parentOf_38 ?_
      refine lv_iload_n C.1 C.2.1 dX4_parentOf_41 rfl (lv_at hl 1 rfl) ?_
      obtain ⟨v_4, hv_4, hf⟩ := bnd hf
      refine g_ald C E hw 1 rfl (ld_some hv_4) dX4_parentOf_42 ?_
      exact g_iret C hw (Nat.le_of_ble_eq_true rfl) (Nat.le_of_ble_eq_true rfl) ⟨congrArg Prod.fst (Option.some.inj hf), congrArg Prod.snd (Option.some.inj hf)⟩ dX4_parentOf_43
    · have hf := ift hc hf
      refine lv_aload_n C.1 C.2.1 dX4_parentOf_29 rfl (lv_at hl 0 rfl) ?_
      refine lv_iconst (v := 2) C.1 C.2.1 dX4_parentOf_30 (by decide) ?_
      obtain ⟨⟨v_5, S_6⟩, hu_7, hf⟩ := bnd hf
      have hf := pr_r hf
      refine g_cie (wf := (mw cI q)) (S := S_1) (rest := []) mw_adr hw (g_runV (rm := ({ frames := 0, cells := 0, slots := 0, locals := 0 } : Room)) (As := [.int 2]) (rest := []) C E hw F_X4_fail (ctX4_fail l (cI := cI) (D := D) (q := q) S_1 2 _ hu_7) km_X4_68 0 rfl rfl rfl hl.1 rfl (Nat.le_of_ble_eq_true rfl) ⟨(Nat.le_of_ble_eq_true rfl), (Nat.le_of_ble_eq_true rfl)⟩ ⟨(Nat.le_of_ble_eq_true rfl), (Nat.le_of_ble_eq_true rfl)⟩ dX4_parentOf_31) (fun H locs hw => ?_)
      refine lv_goto (tgt := 43) C.1 C.2.1 dX4_parentOf_34 (by decide) ?_
      exact g_iret C hw (Nat.le_of_ble_eq_true rfl) (Nat.le_of_ble_eq_true rfl) ⟨congrArg Prod.fst (Option.some.inj hf), congrArg Prod.snd (Option.some.inj hf)⟩ dX4_parentOf_43
  · have hf := ift hc hf
    refine lv_aload_n C.1 C.2.1 dX4_parentOf_13 rfl (lv_at hl 0 rfl) ?_
    refine lv_iconst (v := 1) C.1 C.2.1 dX4_parentOf_14 (by decide) ?_
    obtain ⟨⟨v_8, S_9⟩, hu_10, hf⟩ := bnd hf
    have hf := pr_r hf
    refine g_cie (wf := (mw cI q)) (S := S_1) (rest := []) mw_adr hw (g_runV (rm := ({ frames := 0, cells := 0, slots := 0, locals := 0 } : Room)) (As := [.int 1]) (rest := []) C E hw F_X4_fail (ctX4_fail l (cI := cI) (D := D) (q := q) S_1 1 _ hu_10) km_X4_68 0 rfl rfl rfl hl.1 rfl (Nat.le_of_ble_eq_true rfl) ⟨(Nat.le_of_ble_eq_true rfl), (Nat.le_of_ble_eq_true rfl)⟩ ⟨(Nat.le_of_ble_eq_true rfl), (Nat.le_of_ble_eq_true rfl)⟩ dX4_parentOf_15) (fun H locs hw => ?_)
    exact g_iret C hw (Nat.le_of_ble_eq_true rfl) (Nat.le_of_ble_eq_true rfl) ⟨congrArg Prod.fst (Option.some.inj hf), congrArg Prod.snd (Option.some.inj hf)⟩ dX4_parentOf_18
/-! DreamLedgerModel.tagsAbove -/
def fX4_tagsAbove (S : St) (x1 : Int32) : Option (Int32 × St) :=
  Option.bind (some (up S 10 0 0)) fun S_1 =>
  Option.bind (fX4_isTag S_1 x1) fun v_2 =>
  if v_2 = 0 then
    Option.bind (fX4_fail S_1 1) fun u_5 => pr u_5 fun v_3 S_4 =>
    some (v_3, S_4)
  else
    Option.bind (fX4_above S_1 x1) fun v_6 =>
    Option.bind (fX4_many v_6) fun v_7 =>
    some (v_7, S_1)
set_option maxHeartbeats 4000000 in
set_option maxRecDepth 100000 in
theorem ctX4_tagsAbove (l : Launch) {D : va_G} {cI : ClassId} {q : Nat → Nat} (S : St) (x1 : Int32) (sz : Nat) {r1 : Int32} {S1 : St} (hf : fX4_tagsAbove S x1 = some (r1, S1)) : Met l yX4_tagsAbove (Cond.code yX4_tagsAbove cX4_tagsAbove 2 (some .int) :: XALL) ({ frames := 2, cells := 0, slots := 0, locals := 43 } : Room) (va_Pc [.ref (q 0), .int x1] (gPre D cI ((mw cI q) S) sz)) (gQi D (mw cI q) S (fun (r : Int32) (u : St) => r = r1 ∧ u = S1) sz) 0 0 (va_A ((mw cI q) S) sz) := by
  unfold fX4_tagsAbove at hf
  refine Met.ofW (cc := cX4_tagsAbove) (maxL := 2) (ret := (some .int)) (by decide) rfl ?_
  intro p e s m args below meth c s₁ B hml hv
  obtain ⟨rfl, hg⟩ := hv
  have C : Ctx p s m _ meth c cX4_tagsAbove 2 RX4 (some .int) := Ctx.of B hml rfl
  obtain ⟨E, hw, hsz⟩ := g_start hg
  subst hsz
  have hl := lv_entry ([.ref (q 0), .int x1]) (n := 2) (Nat.le_of_ble_eq_true rfl)
  rw [lg_entry_eq]
  generalize (lg_sl ([.ref (q 0), .int x1]) ++ List.replicate (2 - (lg_sl ([.ref (q 0), .int x1])).length) Slot.unset).toArray = ls at hl ⊢
  have hl : lv_has ls 2 [(0, .ref (q 0)), (1, .int x1)] := hl
  refine lv_aload_n C.1 C.2.1 dX4_tagsAbove_0 rfl (lv_at hl 0 rfl) ?_
  refine lv_iconst (v := 0) C.1 C.2.1 dX4_tagsAbove_1 (by decide) ?_
  obtain ⟨S_1, hS_1, hf⟩ := bnd hf
  refine g_put C E hw inW4 tyX4 tyX4_ok nmX4 0 rfl rfl 0 (by decide) kf_X4_40 rfl (by decide +kernel) (Nat.le_of_ble_eq_true rfl) (ws' := (mw cI q) S_1) (by rw [← Option.some.inj hS_1]; rfl) dX4_tagsAbove_2 (fun H locs hw => ?_)
  refine lv_aload_n C.1 C.2.1 dX4_tagsAbove_5 rfl (lv_at hl 0 rfl) ?_
  refine lv_iload_n C.1 C.2.1 dX4_tagsAbove_6 rfl (lv_at hl 1 rfl) ?_
  obtain ⟨v_2, hv_2, hf⟩ := bnd hf
  refine g_cie (wf := (mw cI q)) (S := S_1) (rest := []) mw_adr hw (g_runV (rm := ({ frames := 1, cells := 0, slots := 0, locals := 22 } : Room)) (As := [.int x1]) (rest := []) C E hw F_X4_isTag (ctX4_isTag l (cI := cI) (D := D) (q := q) S_1 x1 _ hv_2) km_X4_71 0 rfl rfl rfl hl.1 rfl (Nat.le_of_ble_eq_true rfl) ⟨(Nat.le_of_ble_eq_true rfl), (Nat.le_of_ble_eq_true rfl)⟩ ⟨(Nat.le_of_ble_eq_true rfl), (Nat.le_of_ble_eq_true rfl)⟩ dX4_tagsAbove_7) (fun H locs hw => ?_)
  refine lv_if_eq (tgt := 24) C.1 C.2.1 dX4_tagsAbove_10 (by decide) (fun hc => ?_) (fun hc => ?_)
  · have hf := ift hc hf
    refine lv_aload_n C.1 C.2.1 dX4_tagsAbove_24 rfl (lv_at hl 0 rfl) ?_
    refine lv_iconst (v := 1) C.1 C.2.1 dX4_tagsAbove_25 (by decide) ?_
    obtain ⟨⟨v_3, S_4⟩, hu_5, hf⟩ := bnd hf
    have hf := pr_r hf
    refine g_cie (wf := (mw cI q)) (S := S_1) (rest := []) mw_adr hw (g_runV (rm := ({ frames := 0, cells := 0, slots := 0, locals := 0 } : Room)) (As := [.int 1]) (rest := []) C E hw F_X4_fail (ctX4_fail l (cI := cI) (D := D) (q := q) S_1 1 _ hu_5) km_X4_68 0 rfl rfl rfl hl.1 rfl (Nat.le_of_ble_eq_true rfl) ⟨(Nat.le_of_ble_eq_true rfl), (Nat.le_of_ble_eq_true rfl)⟩ ⟨(Nat.le_of_ble_eq_true rfl), (Nat.le_of_ble_eq_true rfl)⟩ dX4_tagsAbove_26) (fun H locs hw => ?_)
    exact g_iret C hw (Nat.le_of_ble_eq_true rfl) (Nat.le_of_ble_eq_true rfl) ⟨congrArg Prod.fst (Option.some.inj hf), congrArg Prod.snd (Option.some.inj hf)⟩ dX4_tagsAbove_29
  · have hf := iff_ hc hf
    refine lv_aload_n C.1 C.2.1 dX4_tagsAbove_13 rfl (lv_at hl 0 rfl) ?_
    refine lv_iload_n C.1 C.2.1 dX4_tagsAbove_14 rfl (lv_at hl 1 rfl) ?_
    obtain ⟨v_6, hv_6, hf⟩ := bnd hf
    refine g_cie (wf := (mw cI q)) (S := S_1) (rest := []) mw_adr hw (g_runV (rm := ({ frames := 0, cells := 0, slots := 0, locals := 0 } : Room)) (As := [.int x1]) (rest := []) C E hw F_X4_above (ctX4_above l (cI := cI) (D := D) (q := q) S_1 x1 _ hv_6) km_X4_57 0 rfl rfl rfl hl.1 rfl (Nat.le_of_ble_eq_true rfl) ⟨(Nat.le_of_ble_eq_true rfl), (Nat.le_of_ble_eq_true rfl)⟩ ⟨(Nat.le_of_ble_eq_true rfl), (Nat.le_of_ble_eq_true rfl)⟩ dX4_tagsAbove_15) (fun H locs hw => ?_)
    obtain ⟨v_7, hv_7, hf⟩ := bnd hf
    refine g_ci0e (rest := []) hw (g_run0 (rm := ({ frames := 0, cells := 0, slots := 0, locals := 0 } : Room)) (As := [.int v_6]) (rest := []) C F_X4_many (ctX4_many l v_6 hv_7) km_X4_78 rfl hl.1 rfl (Nat.le_of_ble_eq_true rfl) ⟨(Nat.le_of_ble_eq_true rfl), (Nat.le_of_ble_eq_true rfl)⟩ ⟨(Nat.le_of_ble_eq_true rfl), (Nat.le_of_ble_eq_true rfl)⟩ dX4_tagsAbove_18) (fun H locs hw => ?_)
    refine lv_goto (tgt := 29) C.1 C.2.1 dX4_tagsAbove_21 (by decide) ?_
    exact g_iret C hw (Nat.le_of_ble_eq_true rfl) (Nat.le_of_ble_eq_true rfl) ⟨congrArg Prod.fst (Option.some.inj hf), congrArg Prod.snd (Option.some.inj hf)⟩ dX4_tagsAbove_29
/-! DreamLedgerModel.tagsBelow -/
def fX4_tagsBelow (S : St) (x1 : Int32) : Option (Int32 × St) :=
  Option.bind (some (up S 10 0 0)) fun S_1 =>
  Option.bind (fX4_isTag S_1 x1) fun v_2 =>
  if v_2 = 0 then
    Option.bind (fX4_fail S_1 1) fun u_5 => pr u_5 fun v_3 S_4 =>
    some (v_3, S_4)
  else
    Option.bind (fX4_tagsUnder S_1 x1) fun v_6 =>
    some (v_6, S_1)
set_option maxHeartbeats 4000000 in
set_option maxRecDepth 100000 in
theorem ctX4_tagsBelow (l : Launch) {D : va_G} {cI : ClassId} {q : Nat → Nat} (S : St) (x1 : Int32) (sz : Nat) {r1 : Int32} {S1 : St} (hf : fX4_tagsBelow S x1 = some (r1, S1)) : Met l yX4_tagsBelow (Cond.code yX4_tagsBelow cX4_tagsBelow 2 (some .int) :: XALL) ({ frames := 3, cells := 0, slots := 0, locals := 68 } : Room) (va_Pc [.ref (q 0), .int x1] (gPre D cI ((mw cI q) S) sz)) (gQi D (mw cI q) S (fun (r : Int32) (u : St) => r = r1 ∧ u = S1) sz) 0 0 (va_A ((mw cI q) S) sz) := by
  unfold fX4_tagsBelow at hf
  refine Met.ofW (cc := cX4_tagsBelow) (maxL := 2) (ret := (some .int)) (by decide) rfl ?_
  intro p e s m args below meth c s₁ B hml hv
  obtain ⟨rfl, hg⟩ := hv
  have C : Ctx p s m _ meth c cX4_tagsBelow 2 RX4 (some .int) := Ctx.of B hml rfl
  obtain ⟨E, hw, hsz⟩ := g_start hg
  subst hsz
  have hl := lv_entry ([.ref (q 0), .int x1]) (n := 2) (Nat.le_of_ble_eq_true rfl)
  rw [lg_entry_eq]
  generalize (lg_sl ([.ref (q 0), .int x1]) ++ List.replicate (2 - (lg_sl ([.ref (q 0), .int x1])).length) Slot.unset).toArray = ls at hl ⊢
  have hl : lv_has ls 2 [(0, .ref (q 0)), (1, .int x1)] := hl
  refine lv_aload_n C.1 C.2.1 dX4_tagsBelow_0 rfl (lv_at hl 0 rfl) ?_
  refine lv_iconst (v := 0) C.1 C.2.1 dX4_tagsBelow_1 (by decide) ?_
  obtain ⟨S_1, hS_1, hf⟩ := bnd hf
  refine g_put C E hw inW4 tyX4 tyX4_ok nmX4 0 rfl rfl 0 (by decide) kf_X4_40 rfl (by decide +kernel) (Nat.le_of_ble_eq_true rfl) (ws' := (mw cI q) S_1) (by rw [← Option.some.inj hS_1]; rfl) dX4_tagsBelow_2 (fun H locs hw => ?_)
  refine lv_aload_n C.1 C.2.1 dX4_tagsBelow_5 rfl (lv_at hl 0 rfl) ?_
  refine lv_iload_n C.1 C.2.1 dX4_tagsBelow_6 rfl (lv_at hl 1 rfl) ?_
  obtain ⟨v_2, hv_2, hf⟩ := bnd hf
  refine g_cie (wf := (mw cI q)) (S := S_1) (rest := []) mw_adr hw (g_runV (rm := ({ frames := 1, cells := 0, slots := 0, locals := 22 } : Room)) (As := [.int x1]) (rest := []) C E hw F_X4_isTag (ctX4_isTag l (cI := cI) (D := D) (q := q) S_1 x1 _ hv_2) km_X4_71 0 rfl rfl rfl hl.1 rfl (Nat.le_of_ble_eq_true rfl) ⟨(Nat.le_of_ble_eq_true rfl), (Nat.le_of_ble_eq_true rfl)⟩ ⟨(Nat.le_of_ble_eq_true rfl), (Nat.le_of_ble_eq_true rfl)⟩ dX4_tagsBelow_7) (fun H locs hw => ?_)
  refine lv_if_eq (tgt := 21) C.1 C.2.1 dX4_tagsBelow_10 (by decide) (fun hc => ?_) (fun hc => ?_)
  · have hf := ift hc hf
    refine lv_aload_n C.1 C.2.1 dX4_tagsBelow_21 rfl (lv_at hl 0 rfl) ?_
    refine lv_iconst (v := 1) C.1 C.2.1 dX4_tagsBelow_22 (by decide) ?_
    obtain ⟨⟨v_3, S_4⟩, hu_5, hf⟩ := bnd hf
    have hf := pr_r hf
    refine g_cie (wf := (mw cI q)) (S := S_1) (rest := []) mw_adr hw (g_runV (rm := ({ frames := 0, cells := 0, slots := 0, locals := 0 } : Room)) (As := [.int 1]) (rest := []) C E hw F_X4_fail (ctX4_fail l (cI := cI) (D := D) (q := q) S_1 1 _ hu_5) km_X4_68 0 rfl rfl rfl hl.1 rfl (Nat.le_of_ble_eq_true rfl) ⟨(Nat.le_of_ble_eq_true rfl), (Nat.le_of_ble_eq_true rfl)⟩ ⟨(Nat.le_of_ble_eq_true rfl), (Nat.le_of_ble_eq_true rfl)⟩ dX4_tagsBelow_23) (fun H locs hw => ?_)
    exact g_iret C hw (Nat.le_of_ble_eq_true rfl) (Nat.le_of_ble_eq_true rfl) ⟨congrArg Prod.fst (Option.some.inj hf), congrArg Prod.snd (Option.some.inj hf)⟩ dX4_tagsBelow_26
  · have hf := iff_ hc hf
    refine lv_aload_n C.1 C.2.1 dX4_tagsBelow_13 rfl (lv_at hl 0 rfl) ?_
    refine lv_iload_n C.1 C.2.1 dX4_tagsBelow_14 rfl (lv_at hl 1 rfl) ?_
    obtain ⟨v_6, hv_6, hf⟩ := bnd hf
    refine g_cie (wf := (mw cI q)) (S := S_1) (rest := []) mw_adr hw (g_runV (rm := ({ frames := 2, cells := 0, slots := 0, locals := 45 } : Room)) (As := [.int x1]) (rest := []) C E hw F_X4_tagsUnder (ctX4_tagsUnder l (cI := cI) (D := D) (q := q) S_1 x1 _ hv_6) km_X4_112 0 rfl rfl rfl hl.1 rfl (Nat.le_of_ble_eq_true rfl) ⟨(Nat.le_of_ble_eq_true rfl), (Nat.le_of_ble_eq_true rfl)⟩ ⟨(Nat.le_of_ble_eq_true rfl), (Nat.le_of_ble_eq_true rfl)⟩ dX4_tagsBelow_15) (fun H locs hw => ?_)
    refine lv_goto (tgt := 26) C.1 C.2.1 dX4_tagsBelow_18 (by decide) ?_
    exact g_iret C hw (Nat.le_of_ble_eq_true rfl) (Nat.le_of_ble_eq_true rfl) ⟨congrArg Prod.fst (Option.some.inj hf), congrArg Prod.snd (Option.some.inj hf)⟩ dX4_tagsBelow_26
/-! DreamLedgerModel.isBelow -/
def fX4_isBelow_30 (S : St) : Option (Int32 × St) :=
  Option.bind (fX4_failed S 1) fun u_8 => pr u_8 fun v_6 S_7 =>
  Option.bind (zg v_6) fun v_9 =>
  some (v_9, S_7)
set_option maxHeartbeats 4000000 in
set_option maxRecDepth 100000 in
theorem wX4_isBelow_30 {p : Program} {l : Launch} {e : Env} {s : State} {m : MethodId} {args : Array Value} {below : List Frame} {meth : Method} {c : Code} {D : va_G} {cI : ClassId} {q : Nat → Nat} (C : Ctx p s m args meth c cX4_isBelow 3 RX4 (some .boolean)) (E : gE D cI s) {S0 : St} {r1 : Int32} {S1 : St} : ∀ (S : St), fX4_isBelow_30 S = some (r1, S1) → ∀ (H : Heap) (locs : List Loc) (ls : Array Slot), gW D ((mw cI q) S0) ((mw cI q) S) s H locs → lv_has ls 3 [(0, .ref (q 0))] → W p l e ({ frames := 2, cells := 0, slots := 0, locals := 45 } : Room) s m args below meth c H locs 0 0 (MQ below (gQi D (mw cI q) S0 (fun (r : Int32) (u : St) => r = r1 ∧ u = S1) s.heap.size) args s 0 0 (va_A ((mw cI q) S0) s.heap.size)) (F0 m 30 ls []) := by
  intro S hf H locs ls hw hl
  unfold fX4_isBelow_30 at hf
  refine lv_aload_n C.1 C.2.1 dX4_isBelow_30 rfl (lv_at hl 0 rfl) ?_
  refine lv_iconst (v := 1) C.1 C.2.1 dX4_isBelow_31 (by decide) ?_
  obtain ⟨⟨v_6, S_7⟩, hu_8, hf⟩ := bnd hf
  have hf := pr_r hf
  refine g_cie (wf := (mw cI q)) (S := S) (rest := []) mw_adr hw (g_runV (rm := ({ frames := 0, cells := 0, slots := 0, locals := 0 } : Room)) (As := [.int 1]) (rest := []) C E hw F_X4_failed (ctX4_failed l (cI := cI) (D := D) (q := q) S 1 _ hu_8) km_X4_109 0 rfl rfl rfl hl.1 rfl (Nat.le_of_ble_eq_true rfl) ⟨(Nat.le_of_ble_eq_true rfl), (Nat.le_of_ble_eq_true rfl)⟩ ⟨(Nat.le_of_ble_eq_true rfl), (Nat.le_of_ble_eq_true rfl)⟩ dX4_isBelow_32) (fun H locs hw => ?_)
  obtain ⟨v_9, hv_9, hf⟩ := bnd hf
  rw [(zg_some hv_9).1]
  exact g_zret C hw (Nat.le_of_ble_eq_true rfl) (Nat.le_of_ble_eq_true rfl) (zg_some hv_9).2 ⟨congrArg Prod.fst (Option.some.inj hf), congrArg Prod.snd (Option.some.inj hf)⟩ dX4_isBelow_35
def fX4_isBelow (S : St) (x1 : Int32) (x2 : Int32) : Option (Int32 × St) :=
  Option.bind (some (up S 10 0 0)) fun S_1 =>
  Option.bind (fX4_isTag S_1 x1) fun v_2 =>
  if v_2 = 0 then
    fX4_isBelow_30 S_1
  else
    Option.bind (fX4_isTag S_1 x2) fun v_3 =>
    if v_3 = 0 then
      fX4_isBelow_30 S_1
    else
      Option.bind (fX4_below S_1 x1 x2) fun v_4 =>
      Option.bind (zg v_4) fun v_5 =>
      some (v_5, S_1)
set_option maxHeartbeats 4000000 in
set_option maxRecDepth 100000 in
theorem ctX4_isBelow (l : Launch) {D : va_G} {cI : ClassId} {q : Nat → Nat} (S : St) (x1 : Int32) (x2 : Int32) (sz : Nat) {r1 : Int32} {S1 : St} (hf : fX4_isBelow S x1 x2 = some (r1, S1)) : Met l yX4_isBelow (Cond.code yX4_isBelow cX4_isBelow 3 (some .boolean) :: XALL) ({ frames := 2, cells := 0, slots := 0, locals := 45 } : Room) (va_Pc [.ref (q 0), .int x1, .int x2] (gPre D cI ((mw cI q) S) sz)) (gQi D (mw cI q) S (fun (r : Int32) (u : St) => r = r1 ∧ u = S1) sz) 0 0 (va_A ((mw cI q) S) sz) := by
  unfold fX4_isBelow at hf
  refine Met.ofW (cc := cX4_isBelow) (maxL := 3) (ret := (some .boolean)) (by decide) rfl ?_
  intro p e s m args below meth c s₁ B hml hv
  obtain ⟨rfl, hg⟩ := hv
  have C : Ctx p s m _ meth c cX4_isBelow 3 RX4 (some .boolean) := Ctx.of B hml rfl
  obtain ⟨E, hw, hsz⟩ := g_start hg
  subst hsz
  have hl := lv_entry ([.ref (q 0), .int x1, .int x2]) (n := 3) (Nat.le_of_ble_eq_true rfl)
  rw [lg_entry_eq]
  generalize (lg_sl ([.ref (q 0), .int x1, .int x2]) ++ List.replicate (3 - (lg_sl ([.ref (q 0), .int x1, .int x2])).length) Slot.unset).toArray = ls at hl ⊢
  have hl : lv_has ls 3 [(0, .ref (q 0)), (1, .int x1), (2, .int x2)] := hl
  refine lv_aload_n C.1 C.2.1 dX4_isBelow_0 rfl (lv_at hl 0 rfl) ?_
  refine lv_iconst (v := 0) C.1 C.2.1 dX4_isBelow_1 (by decide) ?_
  obtain ⟨S_1, hS_1, hf⟩ := bnd hf
  refine g_put C E hw inW4 tyX4 tyX4_ok nmX4 0 rfl rfl 0 (by decide) kf_X4_40 rfl (by decide +kernel) (Nat.le_of_ble_eq_true rfl) (ws' := (mw cI q) S_1) (by rw [← Option.some.inj hS_1]; rfl) dX4_isBelow_2 (fun H locs hw => ?_)
  refine lv_aload_n C.1 C.2.1 dX4_isBelow_5 rfl (lv_at hl 0 rfl) ?_
  refine lv_iload_n C.1 C.2.1 dX4_isBelow_6 rfl (lv_at hl 1 rfl) ?_
  obtain ⟨v_2, hv_2, hf⟩ := bnd hf
  refine g_cie (wf := (mw cI q)) (S := S_1) (rest := []) mw_adr hw (g_runV (rm := ({ frames := 1, cells := 0, slots := 0, locals := 22 } : Room)) (As := [.int x1]) (rest := []) C E hw F_X4_isTag (ctX4_isTag l (cI := cI) (D := D) (q := q) S_1 x1 _ hv_2) km_X4_71 0 rfl rfl rfl hl.1 rfl (Nat.le_of_ble_eq_true rfl) ⟨(Nat.le_of_ble_eq_true rfl), (Nat.le_of_ble_eq_true rfl)⟩ ⟨(Nat.le_of_ble_eq_true rfl), (Nat.le_of_ble_eq_true rfl)⟩ dX4_isBelow_7) (fun H locs hw => ?_)
  refine lv_if_eq (tgt := 30) C.1 C.2.1 dX4_isBelow_10 (by decide) (fun hc => ?_) (fun hc => ?_)
  · have hf := ift hc hf
    exact wX4_isBelow_30 C E S_1 hf _ _ _ hw (lv_sub hl [0] rfl)
  · have hf := iff_ hc hf
    refine lv_aload_n C.1 C.2.1 dX4_isBelow_13 rfl (lv_at hl 0 rfl) ?_
    refine lv_iload_n C.1 C.2.1 dX4_isBelow_14 rfl (lv_at hl 2 rfl) ?_
    obtain ⟨v_3, hv_3, hf⟩ := bnd hf
    refine g_cie (wf := (mw cI q)) (S := S_1) (rest := []) mw_adr hw (g_runV (rm := ({ frames := 1, cells := 0, slots := 0, locals := 22 } : Room)) (As := [.int x2]) (rest := []) C E hw F_X4_isTag (ctX4_isTag l (cI := cI) (D := D) (q := q) S_1 x2 _ hv_3) km_X4_71 0 rfl rfl rfl hl.1 rfl (Nat.le_of_ble_eq_true rfl) ⟨(Nat.le_of_ble_eq_true rfl), (Nat.le_of_ble_eq_true rfl)⟩ ⟨(Nat.le_of_ble_eq_true rfl), (Nat.le_of_ble_eq_true rfl)⟩ dX4_isBelow_15) (fun H locs hw => ?_)
    refine lv_if_eq (tgt := 30) C.1 C.2.1 dX4_isBelow_18 (by decide) (fun hc => ?_) (fun hc => ?_)
    · have hf := ift hc hf
      exact wX4_isBelow_30 C E S_1 hf _ _ _ hw (lv_sub hl [0] rfl)
    · have hf := iff_ hc hf
      refine lv_aload_n C.1 C.2.1 dX4_isBelow_21 rfl (lv_at hl 0 rfl) ?_
      refine lv_iload_n C.1 C.2.1 dX4_isBelow_22 rfl (lv_at hl 1 rfl) ?_
      refine lv_iload_n C.1 C.2.1 dX4_isBelow_23 rfl (lv_at hl 2 rfl) ?_
      obtain ⟨v_4, hv_4, hf⟩ := bnd hf
      refine g_cie (wf := (mw cI q)) (S := S_1) (rest := []) mw_adr hw (g_runV (rm := ({ frames := 1, cells := 0, slots := 0, locals := 23 } : Room)) (As := [.int x1, .int x2]) (rest := []) C E hw F_X4_below (ctX4_below l (cI := cI) (D := D) (q := q) S_1 x1 x2 _ hv_4) km_X4_65 0 rfl rfl rfl hl.1 rfl (Nat.le_of_ble_eq_true rfl) ⟨(Nat.le_of_ble_eq_true rfl), (Nat.le_of_ble_eq_true rfl)⟩ ⟨(Nat.le_of_ble_eq_true rfl), (Nat.le_of_ble_eq_true rfl)⟩ dX4_isBelow_24) (fun H locs hw => ?_)
      refine lv_goto (tgt := 35) C.1 C.2.1 dX4_isBelow_27 (by decide) ?_
      obtain ⟨v_5, hv_5, hf⟩ := bnd hf
      rw [(zg_some hv_5).1]
      exact g_zret C hw (Nat.le_of_ble_eq_true rfl) (Nat.le_of_ble_eq_true rfl) (zg_some hv_5).2 ⟨congrArg Prod.fst (Option.some.inj hf), congrArg Prod.snd (Option.some.inj hf)⟩ dX4_isBelow_35
/-! DreamLedgerModel.nearestAbove -/
def fX4_nearestAbove_21 (S : St) : Option (Int32 × St) :=
  Option.bind (fX4_fail S 1) fun u_9 => pr u_9 fun v_7 S_8 =>
  some (v_7, S_8)
set_option maxHeartbeats 4000000 in
set_option maxRecDepth 100000 in
theorem wX4_nearestAbove_21 {p : Program} {l : Launch} {e : Env} {s : State} {m : MethodId} {args : Array Value} {below : List Frame} {meth : Method} {c : Code} {D : va_G} {cI : ClassId} {q : Nat → Nat} (C : Ctx p s m args meth c cX4_nearestAbove 6 RX4 (some .int)) (E : gE D cI s) {S0 : St} {r1 : Int32} {S1 : St} : ∀ (S : St), fX4_nearestAbove_21 S = some (r1, S1) → ∀ (H : Heap) (locs : List Loc) (ls : Array Slot), gW D ((mw cI q) S0) ((mw cI q) S) s H locs → lv_has ls 6 [(0, .ref (q 0))] → W p l e ({ frames := 2, cells := 0, slots := 0, locals := 43 } : Room) s m args below meth c H locs 0 0 (MQ below (gQi D (mw cI q) S0 (fun (r : Int32) (u : St) => r = r1 ∧ u = S1) s.heap.size) args s 0 0 (va_A ((mw cI q) S0) s.heap.size)) (F0 m 21 ls []) := by
  intro S hf H locs ls hw hl
  unfold fX4_nearestAbove_21 at hf
  refine lv_aload_n C.1 C.2.1 dX4_nearestAbove_21 rfl (lv_at hl 0 rfl) ?_
  refine lv_iconst (v := 1) C.1 C.2.1 dX4_nearestAbove_22 (by decide) ?_
  obtain ⟨⟨v_7, S_8⟩, hu_9, hf⟩ := bnd hf
  have hf := pr_r hf
  refine g_cie (wf := (mw cI q)) (S := S) (rest := []) mw_adr hw (g_runV (rm := ({ frames := 0, cells := 0, slots := 0, locals := 0 } : Room)) (As := [.int 1]) (rest := []) C E hw F_X4_fail (ctX4_fail l (cI := cI) (D := D) (q := q) S 1 _ hu_9) km_X4_68 0 rfl rfl rfl hl.1 rfl (Nat.le_of_ble_eq_true rfl) ⟨(Nat.le_of_ble_eq_true rfl), (Nat.le_of_ble_eq_true rfl)⟩ ⟨(Nat.le_of_ble_eq_true rfl), (Nat.le_of_ble_eq_true rfl)⟩ dX4_nearestAbove_23) (fun H locs hw => ?_)
  exact g_iret C hw (Nat.le_of_ble_eq_true rfl) (Nat.le_of_ble_eq_true rfl) ⟨congrArg Prod.fst (Option.some.inj hf), congrArg Prod.snd (Option.some.inj hf)⟩ dX4_nearestAbove_26
def fX4_nearestAbove_98 (x3 : Int32) (k53 : St → Int32 → Int32 → Option (Int32 × St)) (S : St) (x5 : Int32) : Option (Int32 × St) :=
  Option.bind (some (x5 + 1)) fun x5_17 =>
  k53 S x5 x5_17
set_option maxHeartbeats 4000000 in
set_option maxRecDepth 100000 in
theorem wX4_nearestAbove_98 {p : Program} {l : Launch} {e : Env} {s : State} {m : MethodId} {args : Array Value} {below : List Frame} {meth : Method} {c : Code} {D : va_G} {cI : ClassId} {q : Nat → Nat} (C : Ctx p s m args meth c cX4_nearestAbove 6 RX4 (some .int)) (E : gE D cI s) {S0 : St} {r1 : Int32} {S1 : St} (x3 : Int32) (k53 : St → Int32 → Int32 → Option (Int32 × St)) (hk53 : ∀ (S : St) (x4 : Int32) (x5 : Int32), k53 S x4 x5 = some (r1, S1) → ∀ (H : Heap) (locs : List Loc) (ls : Array Slot), gW D ((mw cI q) S0) ((mw cI q) S) s H locs → lv_has ls 6 [(0, .ref (q 0)), (3, .int x3), (4, .int x4), (5, .int x5)] → W p l e ({ frames := 2, cells := 0, slots := 0, locals := 43 } : Room) s m args below meth c H locs 0 0 (MQ below (gQi D (mw cI q) S0 (fun (r : Int32) (u : St) => r = r1 ∧ u = S1) s.heap.size) args s 0 0 (va_A ((mw cI q) S0) s.heap.size)) (F0 m 53 ls [])) : ∀ (S : St) (x5 : Int32), fX4_nearestAbove_98 x3 k53 S x5 = some (r1, S1) → ∀ (H : Heap) (locs : List Loc) (ls : Array Slot), gW D ((mw cI q) S0) ((mw cI q) S) s H locs → lv_has ls 6 [(0, .ref (q 0)), (3, .int x3), (5, .int x5)] → W p l e ({ frames := 2, cells := 0, slots := 0, locals := 43 } : Room) s m args below meth c H locs 0 0 (MQ below (gQi D (mw cI q) S0 (fun (r : Int32) (u : St) => r = r1 ∧ u = S1) s.heap.size) args s 0 0 (va_A ((mw cI q) S0) s.heap.size)) (F0 m 98 ls []) := by
  intro S x5 hf H locs ls hw hl
  unfold fX4_nearestAbove_98 at hf
  refine lv_iload C.1 C.2.1 dX4_nearestAbove_98 (lv_at hl 2 rfl) ?_
  refine lv_istore (lv' := [(4, .int x5), (0, .ref (q 0)), (3, .int x3), (5, .int x5)]) C.1 C.2.1 dX4_nearestAbove_100 hl (by decide) rfl (fun ls hl => ?_)
  obtain ⟨x5_17, hx5_17, hf⟩ := bnd hf
  refine lv_iinc (v := x5_17) (lv' := [(5, .int x5_17), (4, .int x5), (0, .ref (q 0)), (3, .int x3)]) C.1 C.2.1 dX4_nearestAbove_102 hl (k := 3) rfl (inc1 hx5_17) (by decide) rfl (fun ls hl => ?_)
  refine lv_goto (tgt := 53) C.1 C.2.1 dX4_nearestAbove_105 (by decide) ?_
  exact hk53 S x5 x5_17 hf _ _ _ hw (lv_sub hl [2, 3, 1, 0] rfl)
def fX4_nearestAbove_53 (x3 : Int32) : Nat → St → Int32 → Int32 → Option (Int32 × St)
  | 0, _, _, _ => none
  | n + 1, S, x4, x5 =>
    if (S 11 0) ≤ x5 then
      some (x4, S)
    else
      Option.bind (fX4_is x3 x5) fun v_10 =>
      if v_10 = 0 then
        Option.bind (some (x5 + 1)) fun x5_11 =>
        fX4_nearestAbove_53 x3 n S x4 x5_11
      else
        if x4 = (-1) then
          fX4_nearestAbove_98 x3 (fX4_nearestAbove_53 x3 n) S x5
        else
          Option.bind (fX4_above S x5) fun v_12 =>
          Option.bind (fX4_many v_12) fun v_13 =>
          Option.bind (fX4_above S x4) fun v_14 =>
          Option.bind (fX4_many v_14) fun v_15 =>
          if v_13 ≤ v_15 then
            Option.bind (some (x5 + 1)) fun x5_16 =>
            fX4_nearestAbove_53 x3 n S x4 x5_16
          else
            fX4_nearestAbove_98 x3 (fX4_nearestAbove_53 x3 n) S x5
set_option maxHeartbeats 4000000 in
set_option maxRecDepth 100000 in
theorem wX4_nearestAbove_53 {p : Program} {l : Launch} {e : Env} {s : State} {m : MethodId} {args : Array Value} {below : List Frame} {meth : Method} {c : Code} {D : va_G} {cI : ClassId} {q : Nat → Nat} (C : Ctx p s m args meth c cX4_nearestAbove 6 RX4 (some .int)) (E : gE D cI s) {S0 : St} {r1 : Int32} {S1 : St} (x3 : Int32) : ∀ (n : Nat) (S : St) (x4 : Int32) (x5 : Int32), fX4_nearestAbove_53 x3 n S x4 x5 = some (r1, S1) → ∀ (H : Heap) (locs : List Loc) (ls : Array Slot), gW D ((mw cI q) S0) ((mw cI q) S) s H locs → lv_has ls 6 [(0, .ref (q 0)), (3, .int x3), (4, .int x4), (5, .int x5)] → W p l e ({ frames := 2, cells := 0, slots := 0, locals := 43 } : Room) s m args below meth c H locs 0 0 (MQ below (gQi D (mw cI q) S0 (fun (r : Int32) (u : St) => r = r1 ∧ u = S1) s.heap.size) args s 0 0 (va_A ((mw cI q) S0) s.heap.size)) (F0 m 53 ls []) := by
  intro n
  induction n with
  | zero => intro S x4 x5 hf; rw [fX4_nearestAbove_53] at hf; cases hf
  | succ n ih =>
    intro S x4 x5 hf H locs ls hw hl
    rw [fX4_nearestAbove_53] at hf
    refine lv_iload C.1 C.2.1 dX4_nearestAbove_53 (lv_at hl 3 rfl) ?_
    refine lv_aload_n C.1 C.2.1 dX4_nearestAbove_55 rfl (lv_at hl 0 rfl) ?_
    refine g_get C E hw inW4 0 rfl rfl 1 (by decide) kf_X4_44 rfl dX4_nearestAbove_56 ?_
    refine lv_icmp_ge (tgt := 108) C.1 C.2.1 dX4_nearestAbove_59 (by decide) (fun hc => ?_) (fun hc => ?_)
    · have hf := ift hc hf
      refine lv_iload C.1 C.2.1 dX4_nearestAbove_108 (lv_at hl 2 rfl) ?_
      exact g_iret C hw (Nat.le_of_ble_eq_true rfl) (Nat.le_of_ble_eq_true rfl) ⟨congrArg Prod.fst (Option.some.inj hf), congrArg Prod.snd (Option.some.inj hf)⟩ dX4_nearestAbove_110
    · have hf := iff_ hc hf
      refine lv_iload_n C.1 C.2.1 dX4_nearestAbove_62 rfl (lv_at hl 1 rfl) ?_
      refine lv_iload C.1 C.2.1 dX4_nearestAbove_63 (lv_at hl 3 rfl) ?_
      obtain ⟨v_10, hv_10, hf⟩ := bnd hf
      refine g_ci0e (rest := []) hw (g_run0 (rm := ({ frames := 0, cells := 0, slots := 0, locals := 0 } : Room)) (As := [.int x3, .int x5]) (rest := []) C F_X4_is (ctX4_is l x3 x5 hv_10) km_X4_61 rfl hl.1 rfl (Nat.le_of_ble_eq_true rfl) ⟨(Nat.le_of_ble_eq_true rfl), (Nat.le_of_ble_eq_true rfl)⟩ ⟨(Nat.le_of_ble_eq_true rfl), (Nat.le_of_ble_eq_true rfl)⟩ dX4_nearestAbove_65) (fun H locs hw => ?_)
      refine lv_if_eq (tgt := 102) C.1 C.2.1 dX4_nearestAbove_68 (by decide) (fun hc => ?_) (fun hc => ?_)
      · have hf := ift hc hf
        obtain ⟨x5_11, hx5_11, hf⟩ := bnd hf
        refine lv_iinc (v := x5_11) (lv' := [(5, .int x5_11), (0, .ref (q 0)), (3, .int x3), (4, .int x4)]) C.1 C.2.1 dX4_nearestAbove_102 hl (k := 3) rfl (inc1 hx5_11) (by decide) rfl (fun ls hl => ?_)
        refine lv_goto (tgt := 53) C.1 C.2.1 dX4_nearestAbove_105 (by decide) ?_
        exact ih S x4 x5_11 hf _ _ _ hw (lv_sub hl [1, 2, 3, 0] rfl)
      · have hf := iff_ hc hf
        refine lv_iload C.1 C.2.1 dX4_nearestAbove_71 (lv_at hl 2 rfl) ?_
        refine lv_iconst (v := (-1)) C.1 C.2.1 dX4_nearestAbove_73 (by decide) ?_
        refine lv_icmp_eq (tgt := 98) C.1 C.2.1 dX4_nearestAbove_74 (by decide) (fun hc => ?_) (fun hc => ?_)
        · have hf := ift hc hf
          exact wX4_nearestAbove_98 C E x3 (fX4_nearestAbove_53 x3 n) ih S x5 hf _ _ _ hw (lv_sub hl [0, 1, 3] rfl)
        · have hf := iff_ hc hf
          refine lv_aload_n C.1 C.2.1 dX4_nearestAbove_77 rfl (lv_at hl 0 rfl) ?_
          refine lv_iload C.1 C.2.1 dX4_nearestAbove_78 (lv_at hl 3 rfl) ?_
          obtain ⟨v_12, hv_12, hf⟩ := bnd hf
          refine g_cie (wf := (mw cI q)) (S := S) (rest := []) mw_adr hw (g_runV (rm := ({ frames := 0, cells := 0, slots := 0, locals := 0 } : Room)) (As := [.int x5]) (rest := []) C E hw F_X4_above (ctX4_above l (cI := cI) (D := D) (q := q) S x5 _ hv_12) km_X4_57 0 rfl rfl rfl hl.1 rfl (Nat.le_of_ble_eq_true rfl) ⟨(Nat.le_of_ble_eq_true rfl), (Nat.le_of_ble_eq_true rfl)⟩ ⟨(Nat.le_of_ble_eq_true rfl), (Nat.le_of_ble_eq_true rfl)⟩ dX4_nearestAbove_80) (fun H locs hw => ?_)
          obtain ⟨v_13, hv_13, hf⟩ := bnd hf
          refine g_ci0e (rest := []) hw (g_run0 (rm := ({ frames := 0, cells := 0, slots := 0, locals := 0 } : Room)) (As := [.int v_12]) (rest := []) C F_X4_many (ctX4_many l v_12 hv_13) km_X4_78 rfl hl.1 rfl (Nat.le_of_ble_eq_true rfl) ⟨(Nat.le_of_ble_eq_true rfl), (Nat.le_of_ble_eq_true rfl)⟩ ⟨(Nat.le_of_ble_eq_true rfl), (Nat.le_of_ble_eq_true rfl)⟩ dX4_nearestAbove_83) (fun H locs hw => ?_)
          refine lv_aload_n C.1 C.2.1 dX4_nearestAbove_86 rfl (lv_at hl 0 rfl) ?_
          refine lv_iload C.1 C.2.1 dX4_nearestAbove_87 (lv_at hl 2 rfl) ?_
          obtain ⟨v_14, hv_14, hf⟩ := bnd hf
          refine g_cie (wf := (mw cI q)) (S := S) (rest := [.int v_13]) mw_adr hw (g_runV (rm := ({ frames := 0, cells := 0, slots := 0, locals := 0 } : Room)) (As := [.int x4]) (rest := [.int v_13]) C E hw F_X4_above (ctX4_above l (cI := cI) (D := D) (q := q) S x4 _ hv_14) km_X4_57 0 rfl rfl rfl hl.1 rfl (Nat.le_of_ble_eq_true rfl) ⟨(Nat.le_of_ble_eq_true rfl), (Nat.le_of_ble_eq_true rfl)⟩ ⟨(Nat.le_of_ble_eq_true rfl), (Nat.le_of_ble_eq_true rfl)⟩ dX4_nearestAbove_89) (fun H locs hw => ?_)
          obtain ⟨v_15, hv_15, hf⟩ := bnd hf
          refine g_ci0e (rest := [.int v_13]) hw (g_run0 (rm := ({ frames := 0, cells := 0, slots := 0, locals := 0 } : Room)) (As := [.int v_14]) (rest := [.int v_13]) C F_X4_many (ctX4_many l v_14 hv_15) km_X4_78 rfl hl.1 rfl (Nat.le_of_ble_eq_true rfl) ⟨(Nat.le_of_ble_eq_true rfl), (Nat.le_of_ble_eq_true rfl)⟩ ⟨(Nat.le_of_ble_eq_true rfl), (Nat.le_of_ble_eq_true rfl)⟩ dX4_nearestAbove_92) (fun H locs hw => ?_)
          refine lv_icmp_le (tgt := 102) C.1 C.2.1 dX4_nearestAbove_95 (by decide) (fun hc => ?_) (fun hc => ?_)
          · have hf := ift hc hf
            obtain ⟨x5_16, hx5_16, hf⟩ := bnd hf
            refine lv_iinc (v := x5_16) (lv' := [(5, .int x5_16), (0, .ref (q 0)), (3, .int x3), (4, .int x4)]) C.1 C.2.1 dX4_nearestAbove_102 hl (k := 3) rfl (inc1 hx5_16) (by decide) rfl (fun ls hl => ?_)
            refine lv_goto (tgt := 53) C.1 C.2.1 dX4_nearestAbove_105 (by decide) ?_
            exact ih S x4 x5_16 hf _ _ _ hw (lv_sub hl [1, 2, 3, 0] rfl)
          · have hf := iff_ hc hf
            exact wX4_nearestAbove_98 C E x3 (fX4_nearestAbove_53 x3 n) ih S x5 hf _ _ _ hw (lv_sub hl [0, 1, 3] rfl)
def fX4_nearestAbove (S : St) (x1 : Int32) (x2 : Int32) : Option (Int32 × St) :=
  Option.bind (some (up S 10 0 0)) fun S_1 =>
  Option.bind (fX4_isTag S_1 x1) fun v_2 =>
  if v_2 = 0 then
    fX4_nearestAbove_21 S_1
  else
    Option.bind (fX4_isTag S_1 x2) fun v_3 =>
    if v_3 = 0 then
      fX4_nearestAbove_21 S_1
    else
      Option.bind (fX4_above S_1 x1) fun v_4 =>
      Option.bind (fX4_above S_1 x2) fun v_5 =>
      Option.bind (some (((v_4 ||| ((1 : Int32) <<< (x1 &&& 31))) &&& (v_5 ||| ((1 : Int32) <<< (x2 &&& 31)))))) fun x3_6 =>
      fX4_nearestAbove_53 x3_6 100 S_1 (-1) 0
set_option maxHeartbeats 4000000 in
set_option maxRecDepth 100000 in
theorem ctX4_nearestAbove (l : Launch) {D : va_G} {cI : ClassId} {q : Nat → Nat} (S : St) (x1 : Int32) (x2 : Int32) (sz : Nat) {r1 : Int32} {S1 : St} (hf : fX4_nearestAbove S x1 x2 = some (r1, S1)) : Met l yX4_nearestAbove (Cond.code yX4_nearestAbove cX4_nearestAbove 6 (some .int) :: XALL) ({ frames := 2, cells := 0, slots := 0, locals := 43 } : Room) (va_Pc [.ref (q 0), .int x1, .int x2] (gPre D cI ((mw cI q) S) sz)) (gQi D (mw cI q) S (fun (r : Int32) (u : St) => r = r1 ∧ u = S1) sz) 0 0 (va_A ((mw cI q) S) sz) := by
  unfold fX4_nearestAbove at hf
  refine Met.ofW (cc := cX4_nearestAbove) (maxL := 6) (ret := (some .int)) (by decide) rfl ?_
  intro p e s m args below meth c s₁ B hml hv
  obtain ⟨rfl, hg⟩ := hv
  have C : Ctx p s m _ meth c cX4_nearestAbove 6 RX4 (some .int) := Ctx.of B hml rfl
  obtain ⟨E, hw, hsz⟩ := g_start hg
  subst hsz
  have hl := lv_entry ([.ref (q 0), .int x1, .int x2]) (n := 6) (Nat.le_of_ble_eq_true rfl)
  rw [lg_entry_eq]
  generalize (lg_sl ([.ref (q 0), .int x1, .int x2]) ++ List.replicate (6 - (lg_sl ([.ref (q 0), .int x1, .int x2])).length) Slot.unset).toArray = ls at hl ⊢
  have hl : lv_has ls 6 [(0, .ref (q 0)), (1, .int x1), (2, .int x2)] := hl
  refine lv_aload_n C.1 C.2.1 dX4_nearestAbove_0 rfl (lv_at hl 0 rfl) ?_
  refine lv_iconst (v := 0) C.1 C.2.1 dX4_nearestAbove_1 (by decide) ?_
  obtain ⟨S_1, hS_1, hf⟩ := bnd hf
  refine g_put C E hw inW4 tyX4 tyX4_ok nmX4 0 rfl rfl 0 (by decide) kf_X4_40 rfl (by decide +kernel) (Nat.le_of_ble_eq_true rfl) (ws' := (mw cI q) S_1) (by rw [← Option.some.inj hS_1]; rfl) dX4_nearestAbove_2 (fun H locs hw => ?_)
  refine lv_aload_n C.1 C.2.1 dX4_nearestAbove_5 rfl (lv_at hl 0 rfl) ?_
  refine lv_iload_n C.1 C.2.1 dX4_nearestAbove_6 rfl (lv_at hl 1 rfl) ?_
  obtain ⟨v_2, hv_2, hf⟩ := bnd hf
  refine g_cie (wf := (mw cI q)) (S := S_1) (rest := []) mw_adr hw (g_runV (rm := ({ frames := 1, cells := 0, slots := 0, locals := 22 } : Room)) (As := [.int x1]) (rest := []) C E hw F_X4_isTag (ctX4_isTag l (cI := cI) (D := D) (q := q) S_1 x1 _ hv_2) km_X4_71 0 rfl rfl rfl hl.1 rfl (Nat.le_of_ble_eq_true rfl) ⟨(Nat.le_of_ble_eq_true rfl), (Nat.le_of_ble_eq_true rfl)⟩ ⟨(Nat.le_of_ble_eq_true rfl), (Nat.le_of_ble_eq_true rfl)⟩ dX4_nearestAbove_7) (fun H locs hw => ?_)
  refine lv_if_eq (tgt := 21) C.1 C.2.1 dX4_nearestAbove_10 (by decide) (fun hc => ?_) (fun hc => ?_)
  · have hf := ift hc hf
    exact wX4_nearestAbove_21 C E S_1 hf _ _ _ hw (lv_sub hl [0] rfl)
  · have hf := iff_ hc hf
    refine lv_aload_n C.1 C.2.1 dX4_nearestAbove_13 rfl (lv_at hl 0 rfl) ?_
    refine lv_iload_n C.1 C.2.1 dX4_nearestAbove_14 rfl (lv_at hl 2 rfl) ?_
    obtain ⟨v_3, hv_3, hf⟩ := bnd hf
    refine g_cie (wf := (mw cI q)) (S := S_1) (rest := []) mw_adr hw (g_runV (rm := ({ frames := 1, cells := 0, slots := 0, locals := 22 } : Room)) (As := [.int x2]) (rest := []) C E hw F_X4_isTag (ctX4_isTag l (cI := cI) (D := D) (q := q) S_1 x2 _ hv_3) km_X4_71 0 rfl rfl rfl hl.1 rfl (Nat.le_of_ble_eq_true rfl) ⟨(Nat.le_of_ble_eq_true rfl), (Nat.le_of_ble_eq_true rfl)⟩ ⟨(Nat.le_of_ble_eq_true rfl), (Nat.le_of_ble_eq_true rfl)⟩ dX4_nearestAbove_15) (fun H locs hw => ?_)
    refine lv_if_ne (tgt := 27) C.1 C.2.1 dX4_nearestAbove_18 (by decide) (fun hc => ?_) (fun hc => ?_)
    · have hf := iff_ hc hf
      refine lv_aload_n C.1 C.2.1 dX4_nearestAbove_27 rfl (lv_at hl 0 rfl) ?_
      refine lv_iload_n C.1 C.2.1 dX4_nearestAbove_28 rfl (lv_at hl 1 rfl) ?_
      obtain ⟨v_4, hv_4, hf⟩ := bnd hf
      refine g_cie (wf := (mw cI q)) (S := S_1) (rest := []) mw_adr hw (g_runV (rm := ({ frames := 0, cells := 0, slots := 0, locals := 0 } : Room)) (As := [.int x1]) (rest := []) C E hw F_X4_above (ctX4_above l (cI := cI) (D := D) (q := q) S_1 x1 _ hv_4) km_X4_57 0 rfl rfl rfl hl.1 rfl (Nat.le_of_ble_eq_true rfl) ⟨(Nat.le_of_ble_eq_true rfl), (Nat.le_of_ble_eq_true rfl)⟩ ⟨(Nat.le_of_ble_eq_true rfl), (Nat.le_of_ble_eq_true rfl)⟩ dX4_nearestAbove_29) (fun H locs hw => ?_)
      refine lv_iconst (v := 1) C.1 C.2.1 dX4_nearestAbove_32 (by decide) ?_
      refine lv_iload_n C.1 C.2.1 dX4_nearestAbove_33 rfl (lv_at hl 1 rfl) ?_
      refine lv_ishl C.1 C.2.1 dX4_nearestAbove_34 ?_
      refine lv_ior C.1 C.2.1 dX4_nearestAbove_35 ?_
      refine lv_aload_n C.1 C.2.1 dX4_nearestAbove_36 rfl (lv_at hl 0 rfl) ?_
      refine lv_iload_n C.1 C.2.1 dX4_nearestAbove_37 rfl (lv_at hl 2 rfl) ?_
      obtain ⟨v_5, hv_5, hf⟩ := bnd hf
      refine g_cie (wf := (mw cI q)) (S := S_1) (rest := [.int (v_4 ||| ((1 : Int32) <<< (x1 &&& 31)))]) mw_adr hw (g_runV (rm := ({ frames := 0, cells := 0, slots := 0, locals := 0 } : Room)) (As := [.int x2]) (rest := [.int (v_4 ||| ((1 : Int32) <<< (x1 &&& 31)))]) C E hw F_X4_above (ctX4_above l (cI := cI) (D := D) (q := q) S_1 x2 _ hv_5) km_X4_57 0 rfl rfl rfl hl.1 rfl (Nat.le_of_ble_eq_true rfl) ⟨(Nat.le_of_ble_eq_true rfl), (Nat.le_of_ble_eq_true rfl)⟩ ⟨(Nat.le_of_ble_eq_true rfl), (Nat.le_of_ble_eq_true rfl)⟩ dX4_nearestAbove_38) (fun H locs hw => ?_)
      refine lv_iconst (v := 1) C.1 C.2.1 dX4_nearestAbove_41 (by decide) ?_
      refine lv_iload_n C.1 C.2.1 dX4_nearestAbove_42 rfl (lv_at hl 2 rfl) ?_
      refine lv_ishl C.1 C.2.1 dX4_nearestAbove_43 ?_
      refine lv_ior C.1 C.2.1 dX4_nearestAbove_44 ?_
      refine lv_iand C.1 C.2.1 dX4_nearestAbove_45 ?_
      obtain ⟨x3_6, hx3_6, hf⟩ := bnd hf
      refine topi_b hx3_6 ?_
      refine lv_istore_n (lv' := [(3, .int x3_6), (0, .ref (q 0)), (1, .int x1), (2, .int x2)]) C.1 C.2.1 dX4_nearestAbove_46 rfl hl (by decide) rfl (fun ls hl => ?_)
      refine lv_iconst (v := (-1)) C.1 C.2.1 dX4_nearestAbove_47 (by decide) ?_
      refine lv_istore (lv' := [(4, .int (-1)), (3, .int x3_6), (0, .ref (q 0)), (1, .int x1), (2, .int x2)]) C.1 C.2.1 dX4_nearestAbove_48 hl (by decide) rfl (fun ls hl => ?_)
      refine lv_iconst (v := 0) C.1 C.2.1 dX4_nearestAbove_50 (by decide) ?_
      refine lv_istore (lv' := [(5, .int 0), (4, .int (-1)), (3, .int x3_6), (0, .ref (q 0)), (1, .int x1), (2, .int x2)]) C.1 C.2.1 dX4_nearestAbove_51 hl (by decide) rfl (fun ls hl => ?_)
      exact wX4_nearestAbove_53 C E x3_6 100 S_1 (-1) 0 hf _ _ _ hw (lv_sub hl [3, 2, 1, 0] rfl)
    · have hf := ift hc hf
      exact wX4_nearestAbove_21 C E S_1 hf _ _ _ hw (lv_sub hl [0] rfl)
/-! DreamLedgerModel.dreamsWith -/
def fX4_dreamsWith (S : St) (x1 : Int32) : Option (Int32 × St) :=
  Option.bind (some (up S 10 0 0)) fun S_1 =>
  Option.bind (fX4_isTag S_1 x1) fun v_2 =>
  if v_2 = 0 then
    Option.bind (fX4_fail S_1 1) fun u_8 => pr u_8 fun v_6 S_7 =>
    some (v_6, S_7)
  else
    Option.bind (fX4_reckon S_1) fun S_3 =>
    Option.bind (ld S_3 8 16 x1) fun v_4 =>
    Option.bind (fX4_many v_4) fun v_5 =>
    some (v_5, S_3)
set_option maxHeartbeats 4000000 in
set_option maxRecDepth 100000 in
theorem ctX4_dreamsWith (l : Launch) {D : va_G} {cI : ClassId} {q : Nat → Nat} (S : St) (x1 : Int32) (sz : Nat) {r1 : Int32} {S1 : St} (hf : fX4_dreamsWith S x1 = some (r1, S1)) : Met l yX4_dreamsWith (Cond.code yX4_dreamsWith cX4_dreamsWith 2 (some .int) :: XALL) ({ frames := 2, cells := 0, slots := 0, locals := 45 } : Room) (va_Pc [.ref (q 0), .int x1] (gPre D cI ((mw cI q) S) sz)) (gQi D (mw cI q) S (fun (r : Int32) (u : St) => r = r1 ∧ u = S1) sz) 0 0 (va_A ((mw cI q) S) sz) := by
  unfold fX4_dreamsWith at hf
  refine Met.ofW (cc := cX4_dreamsWith) (maxL := 2) (ret := (some .int)) (by decide) rfl ?_
  intro p e s m args below meth c s₁ B hml hv
  obtain ⟨rfl, hg⟩ := hv
  have C : Ctx p s m _ meth c cX4_dreamsWith 2 RX4 (some .int) := Ctx.of B hml rfl
  obtain ⟨E, hw, hsz⟩ := g_start hg
  subst hsz
  have hl := lv_entry ([.ref (q 0), .int x1]) (n := 2) (Nat.le_of_ble_eq_true rfl)
  rw [lg_entry_eq]
  generalize (lg_sl ([.ref (q 0), .int x1]) ++ List.replicate (2 - (lg_sl ([.ref (q 0), .int x1])).length) Slot.unset).toArray = ls at hl ⊢
  have hl : lv_has ls 2 [(0, .ref (q 0)), (1, .int x1)] := hl
  refine lv_aload_n C.1 C.2.1 dX4_dreamsWith_0 rfl (lv_at hl 0 rfl) ?_
  refine lv_iconst (v := 0) C.1 C.2.1 dX4_dreamsWith_1 (by decide) ?_
  obtain ⟨S_1, hS_1, hf⟩ := bnd hf
  refine g_put C E hw inW4 tyX4 tyX4_ok nmX4 0 rfl rfl 0 (by decide) kf_X4_40 rfl (by decide +kernel) (Nat.le_of_ble_eq_true rfl) (ws' := (mw cI q) S_1) (by rw [← Option.some.inj hS_1]; rfl) dX4_dreamsWith_2 (fun H locs hw => ?_)
  refine lv_aload_n C.1 C.2.1 dX4_dreamsWith_5 rfl (lv_at hl 0 rfl) ?_
  refine lv_iload_n C.1 C.2.1 dX4_dreamsWith_6 rfl (lv_at hl 1 rfl) ?_
  obtain ⟨v_2, hv_2, hf⟩ := bnd hf
  refine g_cie (wf := (mw cI q)) (S := S_1) (rest := []) mw_adr hw (g_runV (rm := ({ frames := 1, cells := 0, slots := 0, locals := 22 } : Room)) (As := [.int x1]) (rest := []) C E hw F_X4_isTag (ctX4_isTag l (cI := cI) (D := D) (q := q) S_1 x1 _ hv_2) km_X4_71 0 rfl rfl rfl hl.1 rfl (Nat.le_of_ble_eq_true rfl) ⟨(Nat.le_of_ble_eq_true rfl), (Nat.le_of_ble_eq_true rfl)⟩ ⟨(Nat.le_of_ble_eq_true rfl), (Nat.le_of_ble_eq_true rfl)⟩ dX4_dreamsWith_7) (fun H locs hw => ?_)
  refine lv_if_ne (tgt := 19) C.1 C.2.1 dX4_dreamsWith_10 (by decide) (fun hc => ?_) (fun hc => ?_)
  · have hf := iff_ hc hf
    refine lv_aload_n C.1 C.2.1 dX4_dreamsWith_19 rfl (lv_at hl 0 rfl) ?_
    obtain ⟨S_3, hS_3, hf⟩ := bnd hf
    refine g_cve (wf := (mw cI q)) (S := S_1) (rest := []) mw_adr hw (g_runV (rm := ({ frames := 1, cells := 0, slots := 0, locals := 23 } : Room)) (As := []) (rest := []) C E hw F_X4_reckon (ctX4_reckon l (cI := cI) (D := D) (q := q) S_1  _ hS_3) km_X4_115 0 rfl rfl rfl hl.1 rfl (Nat.le_of_ble_eq_true rfl) ⟨(Nat.le_of_ble_eq_true rfl), (Nat.le_of_ble_eq_true rfl)⟩ ⟨(Nat.le_of_ble_eq_true rfl), (Nat.le_of_ble_eq_true rfl)⟩ dX4_dreamsWith_20) (fun H locs hw => ?_)
    refine lv_aload_n C.1 C.2.1 dX4_dreamsWith_23 rfl (lv_at hl 0 rfl) ?_
    refine g_get C E hw inW4 0 rfl rfl 13 (by decide) kf_X4_34 rfl dX4_dreamsWith_24 ?_
    refine lv_iload_n C.1 C.2.1 dX4_dreamsWith_27 rfl (lv_at hl 1 rfl) ?_
    obtain ⟨v_4, hv_4, hf⟩ := bnd hf
    refine g_ald C E hw 9 rfl (ld_some hv_4) dX4_dreamsWith_28 ?_
    obtain ⟨v_5, hv_5, hf⟩ := bnd hf
    refine g_ci0e (rest := []) hw (g_run0 (rm := ({ frames := 0, cells := 0, slots := 0, locals := 0 } : Room)) (As := [.int v_4]) (rest := []) C F_X4_many (ctX4_many l v_4 hv_5) km_X4_78 rfl hl.1 rfl (Nat.le_of_ble_eq_true rfl) ⟨(Nat.le_of_ble_eq_true rfl), (Nat.le_of_ble_eq_true rfl)⟩ ⟨(Nat.le_of_ble_eq_true rfl), (Nat.le_of_ble_eq_true rfl)⟩ dX4_dreamsWith_29) (fun H locs hw => ?_)
    exact g_iret C hw (Nat.le_of_ble_eq_true rfl) (Nat.le_of_ble_eq_true rfl) ⟨congrArg Prod.fst (Option.some.inj hf), congrArg Prod.snd (Option.some.inj hf)⟩ dX4_dreamsWith_32
  · have hf := ift hc hf
    refine lv_aload_n C.1 C.2.1 dX4_dreamsWith_13 rfl (lv_at hl 0 rfl) ?_
    refine lv_iconst (v := 1) C.1 C.2.1 dX4_dreamsWith_14 (by decide) ?_
    obtain ⟨⟨v_6, S_7⟩, hu_8, hf⟩ := bnd hf
    have hf := pr_r hf
    refine g_cie (wf := (mw cI q)) (S := S_1) (rest := []) mw_adr hw (g_runV (rm := ({ frames := 0, cells := 0, slots := 0, locals := 0 } : Room)) (As := [.int 1]) (rest := []) C E hw F_X4_fail (ctX4_fail l (cI := cI) (D := D) (q := q) S_1 1 _ hu_8) km_X4_68 0 rfl rfl rfl hl.1 rfl (Nat.le_of_ble_eq_true rfl) ⟨(Nat.le_of_ble_eq_true rfl), (Nat.le_of_ble_eq_true rfl)⟩ ⟨(Nat.le_of_ble_eq_true rfl), (Nat.le_of_ble_eq_true rfl)⟩ dX4_dreamsWith_15) (fun H locs hw => ?_)
    exact g_iret C hw (Nat.le_of_ble_eq_true rfl) (Nat.le_of_ble_eq_true rfl) ⟨congrArg Prod.fst (Option.some.inj hf), congrArg Prod.snd (Option.some.inj hf)⟩ dX4_dreamsWith_18
