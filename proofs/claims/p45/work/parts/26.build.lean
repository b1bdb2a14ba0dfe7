theorem F_L_build : FctS yL_build cL_build 5 (some (.object "DreamLedgerLaw$Sim")) 2 := ⟨⟨kc_yL_build, kz_L, by decide +kernel, by decide +kernel, by decide +kernel⟩, kt_yL_build⟩
def fL_build_25 (L : Nat) (xs : Nat → Int32) (x3 : Int32) : Nat → St → St → Int32 → Option (St × St)
  | 0, _, _, _ => none
  | n + 1, S, T, x4 =>
    if x3 ≤ x4 then
      some (S, T)
    else
      Option.bind (rmd x4 16) fun v_4 =>
      Option.bind (fL_cell L xs v_4) fun v_5 =>
      Option.bind (fL_act S T ((v_5 >>> (((x4 / 16) * 3) &&& 31)) + (509 * x4))) fun u_8 => pr u_8 fun S_6 T_7 =>
      Option.bind (some (x4 + 1)) fun x4_9 =>
      fL_build_25 L xs x3 n S_6 T_7 x4_9
set_option maxHeartbeats 4000000 in
set_option maxRecDepth 100000 in
theorem wL_build_25 {p : Program} {l : Launch} {e : Env} {s : State} {m : MethodId} {args : Array Value} {below : List Frame} {meth : Method} {c : Code} {b L : Nat} {xs : Nat → Int32} {D : va_G} {k : Nat → ClassId} {qx r : Nat → Nat} {S0 : St} (C : Ctx p s m args meth c cL_build 5 RL (some (.object "DreamLedgerLaw$Sim"))) (E : gEL D k s) (hX : va_X b L xs s s.heap) (hbl : b < s.heap.size) (hL : L ≤ 260) (hbA : ¬ va_A (xw (k 0) qx S0) s.heap.size b) {S1 T1 : St} (x3 : Int32) : ∀ (n : Nat) (S : St) (T : St) (x4 : Int32), fL_build_25 L xs x3 n S T x4 = some (S1, T1) → ∀ (cl sl : Nat), cl + n ≤ 140 ∧ sl + 24 * n ≤ 3300 → ∀ (H : Heap) (locs : List Loc) (ls : Array Slot), gS D (xw (k 0) qx S0) k qx r S T [] s H locs → lv_has ls 5 [(0, .ref (qx 0)), (1, .ref (b)), (2, .ref (r 0)), (3, .int x3), (4, .int x4)] → W p l e ({ frames := 6, cells := 200, slots := 4000, locals := 147 } : Room) s m args below meth c H locs cl sl (MQ below (gQU D k qx S1 T1 (xw (k 0) qx S0) s.heap.size) args s 200 4000 (va_A (xw (k 0) qx S0) s.heap.size)) (F0 m 25 ls []) := by
  intro n
  induction n with
  | zero => intro S T x4 hf; rw [fL_build_25] at hf; cases hf
  | succ n ih =>
    intro S T x4 hf cl sl hcl H locs ls hw hl
    rw [fL_build_25] at hf
    refine lv_iload C.1 C.2.1 dL_build_25 (lv_at hl 4 rfl) ?_
    refine lv_iload_n C.1 C.2.1 dL_build_27 rfl (lv_at hl 3 rfl) ?_
    refine lv_icmp_ge (tgt := 71) C.1 C.2.1 dL_build_28 (by decide) (fun hc => ?_) (fun hc => ?_)
    · have hf := ift hc hf
      refine lv_aload_n C.1 C.2.1 dL_build_71 rfl (lv_at hl 2 rfl) ?_
      obtain ⟨e1, e2⟩ := Prod.mk.inj (Option.some.inj hf)
      subst e1
      subst e2
      exact l_uret C hw (by omega) (by omega) dL_build_72
    · have hf := iff_ hc hf
      refine lv_aload_n C.1 C.2.1 dL_build_31 rfl (lv_at hl 0 rfl) ?_
      refine lv_aload_n C.1 C.2.1 dL_build_32 rfl (lv_at hl 2 rfl) ?_
      refine lv_aload_n C.1 C.2.1 dL_build_33 rfl (lv_at hl 1 rfl) ?_
      refine lv_iload C.1 C.2.1 dL_build_34 (lv_at hl 4 rfl) ?_
      refine lv_bipush (v := 16) C.1 C.2.1 dL_build_36 (by decide) ?_
      obtain ⟨v_4, hv_4, hf⟩ := bnd hf
      refine l_irem C hv_4 dL_build_38 ?_
      obtain ⟨v_5, hv_5, hf⟩ := bnd hf
      refine l_cell (rm := ({ frames := 0, cells := 0, slots := 0, locals := 0 } : Room)) (As := [.ref (b), .int v_4]) (rest := [.ref (r 0), .ref (qx 0)]) C hw hX hbl hbA F_L_cell (ctL_cell l v_4 hv_5) km_L_105 rfl hl.1 rfl (Nat.le_of_ble_eq_true rfl) ⟨(Nat.le_of_ble_eq_true rfl), (Nat.le_of_ble_eq_true rfl)⟩ ⟨(by omega : cl + 0 ≤ 200), (by omega : sl + 0 ≤ 4000)⟩ dL_build_39 (fun H locs hw => ?_)
      refine W.cs (cells' := cl) (slots' := sl) rfl rfl ?_
      refine lv_iload C.1 C.2.1 dL_build_42 (lv_at hl 4 rfl) ?_
      refine lv_bipush (v := 16) C.1 C.2.1 dL_build_44 (by decide) ?_
      refine lv_idiv C.1 C.2.1 dL_build_46 (by decide) ?_
      refine lv_iconst (v := 3) C.1 C.2.1 dL_build_47 (by decide) ?_
      refine lv_imul C.1 C.2.1 dL_build_48 ?_
      refine lv_ishr C.1 C.2.1 dL_build_49 ?_
      refine lv_sipush (v := 509) C.1 C.2.1 dL_build_50 (by decide) ?_
      refine lv_iload C.1 C.2.1 dL_build_53 (lv_at hl 4 rfl) ?_
      refine lv_imul C.1 C.2.1 dL_build_55 ?_
      refine lv_iadd C.1 C.2.1 dL_build_56 ?_
      obtain ⟨⟨S_6, T_7⟩, hu_8, hf⟩ := bnd hf
      have hf := pr_r hf
      refine l_act (rm := ({ frames := 5, cells := 1, slots := 24, locals := 113 } : Room)) (As := [.ref (qx 0), .ref (r 0), .int ((v_5 >>> (((x4 / 16) * 3) &&& 31)) + (509 * x4))]) (rest := []) C E hw F_L_act (ctL_act l (k := k) (D := D) (qx := qx) (r := r) S T ((v_5 >>> (((x4 / 16) * 3) &&& 31)) + (509 * x4)) hu_8) km_L_109 rfl hl.1 rfl (Nat.le_of_ble_eq_true rfl) ⟨(Nat.le_of_ble_eq_true rfl), (Nat.le_of_ble_eq_true rfl)⟩ ⟨(by omega : cl + 1 ≤ 200), (by omega : sl + 24 ≤ 4000)⟩ dL_build_57 (fun H locs hw => ?_)
      refine W.cs (cells' := (cl + 1)) (slots' := (sl + 24)) rfl rfl ?_
      refine lv_if_ne (tgt := 65) C.1 C.2.1 dL_build_60 (by decide) (fun hc => ?_) (fun hc => absurd hc (by decide))
      obtain ⟨x4_9, hx4_9, hf⟩ := bnd hf
      refine lv_iinc (v := x4_9) (lv' := [(4, .int x4_9), (0, .ref (qx 0)), (1, .ref (b)), (2, .ref (r 0)), (3, .int x3)]) C.1 C.2.1 dL_build_65 hl (k := 4) rfl (inc1 hx4_9) (by decide) rfl (fun ls hl => ?_)
      refine lv_goto (tgt := 25) C.1 C.2.1 dL_build_68 (by decide) ?_
      exact ih S_6 T_7 x4_9 hf (cl + 1) (sl + 24) (by omega) _ _ _ hw (lv_sub hl [1, 2, 3, 4, 0] rfl)
def fL_build (L : Nat) (xs : Nat → Int32) (S : St) : Option (St × St) :=
  Option.bind (fL_cell L xs 0) fun v_1 =>
  Option.bind (fL_below v_1 44) fun v_2 =>
  Option.bind (some ((24 + v_2))) fun x3_3 =>
  fL_build_25 L xs x3_3 100 S (fun _ _ => 0) 0
set_option maxHeartbeats 4000000 in
set_option maxRecDepth 100000 in
theorem ctL_build (l : Launch) {D : va_G} {k : Nat → ClassId} {qx : Nat → Nat} {b L : Nat} {xs : Nat → Int32} (hL : L ≤ 260) (S : St) {S1 T1 : St} (hf : fL_build L xs S = some (S1, T1)) (sz : Nat) : Met l yL_build (Cond.code yL_build cL_build 5 (some (.object "DreamLedgerLaw$Sim")) :: XALL) ({ frames := 6, cells := 200, slots := 4000, locals := 147 } : Room) (va_Pc [.ref (qx 0), .ref b] (gPreU D k (xw (k 0) qx S) b L xs sz)) (gQU D k qx S1 T1 (xw (k 0) qx S) sz) 200 4000 (va_A (xw (k 0) qx S) sz) := by
  unfold fL_build at hf
  refine Met.ofW (cc := cL_build) (maxL := 5) (ret := (some (.object "DreamLedgerLaw$Sim"))) (by decide) rfl ?_
  intro p e s m args below meth c s₁ B hml hv
  obtain ⟨rfl, hgv⟩ := hv
  have C : Ctx p s m _ meth c cL_build 5 RL (some (.object "DreamLedgerLaw$Sim")) := Ctx.of B hml rfl
  obtain ⟨hg1, hX, hbl, hbA⟩ := hgv
  obtain ⟨E, hw, hsz⟩ := gL_start hg1
  subst hsz
  have hl := lv_entry ([.ref (qx 0), .ref b]) (n := 5) (Nat.le_of_ble_eq_true rfl)
  rw [lg_entry_eq]
  generalize (lg_sl ([.ref (qx 0), .ref b]) ++ List.replicate (5 - (lg_sl ([.ref (qx 0), .ref b])).length) Slot.unset).toArray = ls at hl ⊢
  have hl : lv_has ls 5 [(0, .ref (qx 0)), (1, .ref (b))] := hl
  refine g_newo (ci := 4) (fs := sfs0) C E.E hw inW4 tyX4 tyX4_ok kl_L_16 kq_X4 kz_X4 rfl (fun j hj => by rcases (show j = 0 ∨ j = 1 ∨ j = 2 ∨ j = 3 ∨ j = 4 ∨ j = 5 ∨ j = 6 ∨ j = 7 ∨ j = 8 by omega) with rfl | rfl | rfl | rfl | rfl | rfl | rfl | rfl | rfl <;> rfl) (Nat.le_of_ble_eq_true rfl) (Nat.le_of_ble_eq_true rfl) dL_build_0 (fun o H locs hw => ?_)
  refine lv_dup C.1 C.2.1 dL_build_3 rfl ?_
  refine g_init9 (w1 := wi_X4 k o) (wr := xw (k 0) qx S) (rest := [.ref o]) hw (g_runINL (rm := ({ frames := 1, cells := 29, slots := 492, locals := 20 } : Room)) (wc := [(o, .inr (4, sfs0))]) C E hw [16] rfl (by decide) Fi_X4 rfl ki_yX4_init (cti_X4 l o _) kmN_L_104 hl.1 (Nat.le_of_ble_eq_true rfl) ⟨(Nat.le_of_ble_eq_true rfl), (Nat.le_of_ble_eq_true rfl)⟩ ⟨(Nat.le_of_ble_eq_true rfl), (Nat.le_of_ble_eq_true rfl)⟩ dL_build_4) [16] [0, 1, 2, 3, 4, 5, 6, 7, 8, 9, 10, 11, 12, 13, 14, 15] rfl rfl (by decide) (by decide) (fun u H locs hw => ?_)
  obtain ⟨r, hr⟩ : ∃ r : Nat → Nat, r = fun i => if i = 0 then o else u i := ⟨_, rfl⟩
  have hw : gS D (xw (k 0) qx S) k qx r S (fun _ _ => 0) [] s H locs := ⟨fun _ => none, fun _ => 0, 0, ⟨fun i hi => absurd hi (Nat.not_lt_zero _), Nat.le_refl _, by omega⟩, by rw [hr]; unfold LW; rw [List.append_nil]; exact hw⟩
  have ho : o = r 0 := by rw [hr]; rfl
  rw [ho]
  refine W.cs (cells' := 30) (slots' := 501) rfl rfl ?_
  refine lv_astore_n (lv' := [(2, .ref (r 0)), (0, .ref (qx 0)), (1, .ref (b))]) C.1 C.2.1 dL_build_7 rfl hl (by decide) rfl (fun ls hl => ?_)
  refine lv_bipush (v := 24) C.1 C.2.1 dL_build_8 (by decide) ?_
  refine lv_aload_n C.1 C.2.1 dL_build_10 rfl (lv_at hl 2 rfl) ?_
  refine lv_iconst (v := 0) C.1 C.2.1 dL_build_11 (by decide) ?_
  obtain ⟨v_1, hv_1, hf⟩ := bnd hf
  refine l_cell (rm := ({ frames := 0, cells := 0, slots := 0, locals := 0 } : Room)) (As := [.ref (b), .int 0]) (rest := [.int 24]) C hw hX hbl hbA F_L_cell (ctL_cell l 0 hv_1) km_L_105 rfl hl.1 rfl (Nat.le_of_ble_eq_true rfl) ⟨(Nat.le_of_ble_eq_true rfl), (Nat.le_of_ble_eq_true rfl)⟩ ⟨(by omega : 30 + 0 ≤ 200), (by omega : 501 + 0 ≤ 4000)⟩ dL_build_12 (fun H locs hw => ?_)
  refine W.cs (cells' := 30) (slots' := 501) rfl rfl ?_
  refine lv_bipush (v := 44) C.1 C.2.1 dL_build_15 (by decide) ?_
  obtain ⟨v_2, hv_2, hf⟩ := bnd hf
  refine l_0i (rm := ({ frames := 0, cells := 0, slots := 0, locals := 0 } : Room)) (As := [.int v_1, .int 44]) (rest := [.int 24]) C hw F_L_below (ctL_below l v_1 44 hv_2) km_L_9 rfl hl.1 rfl (Nat.le_of_ble_eq_true rfl) ⟨(Nat.le_of_ble_eq_true rfl), (Nat.le_of_ble_eq_true rfl)⟩ ⟨(by omega : 30 + 0 ≤ 200), (by omega : 501 + 0 ≤ 4000)⟩ dL_build_17 (fun H locs hw => ?_)
  refine W.cs (cells' := 30) (slots' := 501) rfl rfl ?_
  refine lv_iadd C.1 C.2.1 dL_build_20 ?_
  obtain ⟨x3_3, hx3_3, hf⟩ := bnd hf
  refine topi_b hx3_3 ?_
  refine lv_istore_n (lv' := [(3, .int x3_3), (2, .ref (r 0)), (0, .ref (qx 0)), (1, .ref (b))]) C.1 C.2.1 dL_build_21 rfl hl (by decide) rfl (fun ls hl => ?_)
  refine lv_iconst (v := 0) C.1 C.2.1 dL_build_22 (by decide) ?_
  refine lv_istore (lv' := [(4, .int 0), (3, .int x3_3), (2, .ref (r 0)), (0, .ref (qx 0)), (1, .ref (b))]) C.1 C.2.1 dL_build_23 hl (by decide) rfl (fun ls hl => ?_)
  exact wL_build_25 C E hX hbl hL hbA x3_3 100 S (fun _ _ => 0) 0 hf 30 501 (by omega) _ _ _ hw (lv_sub hl [3, 4, 2, 1, 0] rfl)
