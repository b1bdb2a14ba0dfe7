theorem gW_sn {D : va_G} {ws0 ex : va_W} {s : State} {H : Heap} {locs : List Loc} {k : Nat → ClassId} {r : Nat → Nat} {tf : Nat → Option Nat} {tq : Nat → Nat} {nt : Nat} {T : St} (hw : gW D ws0 (SN k r tf tq nt T ++ ex) s H locs) : gW D ws0 (SW k r tf tq nt T ++ ex) s H locs := by rw [SN_e] at hw; exact hw
theorem F_L_below : FctS yL_below cL_below 2 (some .int) 2 := ⟨⟨kc_yL_below, kz_L, by decide +kernel, by decide +kernel, by decide +kernel⟩, kt_yL_below⟩
def fL_below (x0 : Int32) (x1 : Int32) : Option Int32 :=
  Option.bind (rmd (x0 &&& 2147483647) x1) fun v_1 =>
  some v_1
set_option maxHeartbeats 4000000 in
set_option maxRecDepth 100000 in
theorem ctL_below (l : Launch) (x0 : Int32) (x1 : Int32) {r1 : Int32} (hf : fL_below x0 x1 = some r1) : Met l yL_below (Cond.code yL_below cL_below 2 (some .int) :: XALL) ({ frames := 0, cells := 0, slots := 0, locals := 0 } : Room) (va_Pc [.int x0, .int x1] (fun _ => True)) (zQi r1) 0 0 (fun _ => False) := by
  unfold fL_below at hf
  refine Met.ofW (cc := cL_below) (maxL := 2) (ret := (some .int)) (by decide) rfl ?_
  intro p e s m args below meth c s₁ B hml hv
  obtain ⟨rfl, hg⟩ := hv
  have C : Ctx p s m _ meth c cL_below 2 RL (some .int) := Ctx.of B hml rfl
  have hw : zS s s.heap [] := va_S.rf
  have hl := lv_entry ([.int x0, .int x1]) (n := 2) (Nat.le_of_ble_eq_true rfl)
  rw [lg_entry_eq]
  generalize (lg_sl ([.int x0, .int x1]) ++ List.replicate (2 - (lg_sl ([.int x0, .int x1])).length) Slot.unset).toArray = ls at hl ⊢
  have hl : lv_has ls 2 [(0, .int x0), (1, .int x1)] := hl
  refine lv_iload_n C.1 C.2.1 dL_below_0 rfl (lv_at hl 0 rfl) ?_
  refine lv_ldc C.1 C.2.1 C.2.2.2.1 (C.2.2.2.2.1 _ kk_L_7) dL_below_1 ?_
  refine lv_iand C.1 C.2.1 dL_below_3 ?_
  refine lv_iload_n C.1 C.2.1 dL_below_4 rfl (lv_at hl 1 rfl) ?_
  obtain ⟨v_1, hv_1, hf⟩ := bnd hf
  refine l_irem C hv_1 dL_below_5 ?_
  exact z_iret C hw (Nat.le_of_ble_eq_true rfl) (Nat.le_of_ble_eq_true rfl) (Option.some.inj hf) dL_below_6
theorem F_X4_matches : FctV yX4_matches cX4_matches 5 (some (.array (.array .boolean))) 0 := ⟨⟨kc_yX4_matches, kz_X4, by decide +kernel, by decide +kernel, by decide +kernel⟩, ki_yX4_matches, ks_yX4_matches⟩
def fX4_matches_33 (T : St) (x2 : Int32) (j3 : Nat) (k15 : St → Int32 → Option St) : Nat → St → Int32 → Option St
  | 0, _, _ => none
  | n + 1, B, x4 =>
    if (T 35 0) ≤ x4 then
      Option.bind (some (x2 + 1)) fun x2_3 =>
      k15 B x2_3
    else
      Option.bind (ix (T 36 0).toNatClampNeg x2) fun j_4 =>
      Option.bind (ldT T j3 0) fun v_5 =>
      if v_5 = 0 then
        Option.bind (ldT T j3 1) fun v_39 =>
        Option.bind (fX4_hasTag T x4 v_39) fun v_40 =>
        Option.bind (stoM B (T 36 0).toNatClampNeg j_4 (T 35 0).toNatClampNeg x4 v_40) fun B_41 =>
        Option.bind (some (x4 + 1)) fun x4_42 =>
        fX4_matches_33 T x2 j3 k15 n B_41 x4_42
      else
        Option.bind (ldT T j3 0) fun v_6 =>
        if v_6 = 3 then
          Option.bind (ldT T j3 1) fun v_32 =>
          Option.bind (ix (T 36 0).toNatClampNeg v_32) fun j_33 =>
          Option.bind (ldM B (T 36 0).toNatClampNeg j_33 (T 35 0).toNatClampNeg x4) fun v_34 =>
          if v_34 = 0 then
            Option.bind (stoM B (T 36 0).toNatClampNeg j_4 (T 35 0).toNatClampNeg x4 1) fun B_37 =>
            Option.bind (some (x4 + 1)) fun x4_38 =>
            fX4_matches_33 T x2 j3 k15 n B_37 x4_38
          else
            Option.bind (stoM B (T 36 0).toNatClampNeg j_4 (T 35 0).toNatClampNeg x4 0) fun B_35 =>
            Option.bind (some (x4 + 1)) fun x4_36 =>
            fX4_matches_33 T x2 j3 k15 n B_35 x4_36
        else
          Option.bind (ldT T j3 0) fun v_7 =>
          if v_7 = 1 then
            Option.bind (ldT T j3 1) fun v_20 =>
            Option.bind (ix (T 36 0).toNatClampNeg v_20) fun j_21 =>
            Option.bind (ldM B (T 36 0).toNatClampNeg j_21 (T 35 0).toNatClampNeg x4) fun v_22 =>
            if v_22 = 0 then
              Option.bind (stoM B (T 36 0).toNatClampNeg j_4 (T 35 0).toNatClampNeg x4 0) fun B_23 =>
              Option.bind (some (x4 + 1)) fun x4_24 =>
              fX4_matches_33 T x2 j3 k15 n B_23 x4_24
            else
              Option.bind (ldT T j3 2) fun v_25 =>
              Option.bind (ix (T 36 0).toNatClampNeg v_25) fun j_26 =>
              Option.bind (ldM B (T 36 0).toNatClampNeg j_26 (T 35 0).toNatClampNeg x4) fun v_27 =>
              if v_27 = 0 then
                Option.bind (stoM B (T 36 0).toNatClampNeg j_4 (T 35 0).toNatClampNeg x4 0) fun B_28 =>
                Option.bind (some (x4 + 1)) fun x4_29 =>
                fX4_matches_33 T x2 j3 k15 n B_28 x4_29
              else
                Option.bind (stoM B (T 36 0).toNatClampNeg j_4 (T 35 0).toNatClampNeg x4 1) fun B_30 =>
                Option.bind (some (x4 + 1)) fun x4_31 =>
                fX4_matches_33 T x2 j3 k15 n B_30 x4_31
          else
            Option.bind (ldT T j3 1) fun v_8 =>
            Option.bind (ix (T 36 0).toNatClampNeg v_8) fun j_9 =>
            Option.bind (ldM B (T 36 0).toNatClampNeg j_9 (T 35 0).toNatClampNeg x4) fun v_10 =>
            if v_10 = 0 then
              Option.bind (ldT T j3 2) fun v_13 =>
              Option.bind (ix (T 36 0).toNatClampNeg v_13) fun j_14 =>
              Option.bind (ldM B (T 36 0).toNatClampNeg j_14 (T 35 0).toNatClampNeg x4) fun v_15 =>
              if v_15 = 0 then
                Option.bind (stoM B (T 36 0).toNatClampNeg j_4 (T 35 0).toNatClampNeg x4 0) fun B_16 =>
                Option.bind (some (x4 + 1)) fun x4_17 =>
                fX4_matches_33 T x2 j3 k15 n B_16 x4_17
              else
                Option.bind (stoM B (T 36 0).toNatClampNeg j_4 (T 35 0).toNatClampNeg x4 1) fun B_18 =>
                Option.bind (some (x4 + 1)) fun x4_19 =>
                fX4_matches_33 T x2 j3 k15 n B_18 x4_19
            else
              Option.bind (stoM B (T 36 0).toNatClampNeg j_4 (T 35 0).toNatClampNeg x4 1) fun B_11 =>
              Option.bind (some (x4 + 1)) fun x4_12 =>
              fX4_matches_33 T x2 j3 k15 n B_11 x4_12
set_option maxHeartbeats 4000000 in
set_option maxRecDepth 100000 in
theorem wX4_matches_33 {p : Program} {l : Launch} {e : Env} {s : State} {m : MethodId} {args : Array Value} {below : List Frame} {meth : Method} {c : Code} {D : va_G} {k : Nat → ClassId} {r : Nat → Nat} {tf : Nat → Option Nat} {tq : Nat → Nat} {nt : Nat} (C : Ctx p s m args meth c cX4_matches 5 RX4 (some (.array (.array .boolean)))) (E : gEL D k s) {T : St} (hg : gok tf tq nt (T 36 0)) {B1 : St} (x2 : Int32) (j3 : Nat) (k15 : St → Int32 → Option St) (hk15 : ∀ (B : St) (x2 : Int32), k15 B x2 = some B1 → ∀ (qa : Nat) (mq : Nat → Nat) (H : Heap) (locs : List Loc) (ls : Array Slot), gW D (SN k r tf tq nt T) (SW k r tf tq nt T ++ (mat k qa mq (T 36 0).toNatClampNeg (T 35 0).toNatClampNeg B)) s H locs → lv_has ls 5 [(0, .ref (r 0)), (1, .ref (qa)), (2, .int x2)] → W p l e ({ frames := 2, cells := 21, slots := 520, locals := 46 } : Room) s m args below meth c H locs 21 520 (MQ below (gQM D k r tf tq nt T B1 s.heap.size) args s 21 520 (va_A (SN k r tf tq nt T) s.heap.size)) (F0 m 15 ls [])) : ∀ (n : Nat) (B : St) (x4 : Int32), fX4_matches_33 T x2 j3 k15 n B x4 = some B1 → ∀ (qa : Nat) (mq : Nat → Nat) (H : Heap) (locs : List Loc) (ls : Array Slot), gW D (SN k r tf tq nt T) (SW k r tf tq nt T ++ (mat k qa mq (T 36 0).toNatClampNeg (T 35 0).toNatClampNeg B)) s H locs → lv_has ls 5 [(0, .ref (r 0)), (1, .ref (qa)), (2, .int x2), (3, .ref (tq j3)), (4, .int x4)] → W p l e ({ frames := 2, cells := 21, slots := 520, locals := 46 } : Room) s m args below meth c H locs 21 520 (MQ below (gQM D k r tf tq nt T B1 s.heap.size) args s 21 520 (va_A (SN k r tf tq nt T) s.heap.size)) (F0 m 33 ls []) := by
  intro n
  induction n with
  | zero => intro B x4 hf; rw [fX4_matches_33] at hf; cases hf
  | succ n ih =>
    intro B x4 hf qa mq H locs ls hw hl
    rw [fX4_matches_33] at hf
    refine lv_iload C.1 C.2.1 dX4_matches_33 (lv_at hl 4 rfl) ?_
    refine lv_aload_n C.1 C.2.1 dX4_matches_35 rfl (lv_at hl 0 rfl) ?_
    refine s_get C E hw 1 (by decide) kf_X4_40 rfl dX4_matches_36 ?_
    refine lv_icmp_ge (tgt := 162) C.1 C.2.1 dX4_matches_39 (by decide) (fun hc => ?_) (fun hc => ?_)
    · have hf := ift hc hf
      obtain ⟨x2_3, hx2_3, hf⟩ := bnd hf
      refine lv_iinc (v := x2_3) (lv' := [(2, .int x2_3), (0, .ref (r 0)), (1, .ref (qa)), (3, .ref (tq j3)), (4, .int x4)]) C.1 C.2.1 dX4_matches_162 hl (k := 2) rfl (inc1 hx2_3) (by decide) rfl (fun ls hl => ?_)
      refine lv_goto (tgt := 15) C.1 C.2.1 dX4_matches_165 (by decide) ?_
      exact hk15 B x2_3 hf _ _ _ _ _ hw (lv_sub hl [1, 2, 0] rfl)
    · have hf := iff_ hc hf
      refine lv_aload_n C.1 C.2.1 dX4_matches_42 rfl (lv_at hl 1 rfl) ?_
      refine lv_iload_n C.1 C.2.1 dX4_matches_43 rfl (lv_at hl 2 rfl) ?_
      obtain ⟨j_4, hj_4, hf⟩ := bnd hf
      refine m_aa C E hw hj_4 dX4_matches_44 ?_
      refine lv_iload C.1 C.2.1 dX4_matches_45 (lv_at hl 4 rfl) ?_
      refine lv_aload_n C.1 C.2.1 dX4_matches_47 rfl (lv_at hl 3 rfl) ?_
      refine lv_iconst (v := 0) C.1 C.2.1 dX4_matches_48 (by decide) ?_
      obtain ⟨v_5, hv_5, hf⟩ := bnd hf
      refine s_ldT C E hg hw hv_5 dX4_matches_49 ?_
      refine lv_if_ne (tgt := 65) C.1 C.2.1 dX4_matches_50 (by decide) (fun hc => ?_) (fun hc => ?_)
      · have hf := iff_ hc hf
        refine lv_aload_n C.1 C.2.1 dX4_matches_65 rfl (lv_at hl 3 rfl) ?_
        refine lv_iconst (v := 0) C.1 C.2.1 dX4_matches_66 (by decide) ?_
        obtain ⟨v_6, hv_6, hf⟩ := bnd hf
        refine s_ldT C E hg hw hv_6 dX4_matches_67 ?_
        refine lv_iconst (v := 3) C.1 C.2.1 dX4_matches_68 (by decide) ?_
        refine lv_icmp_ne (tgt := 91) C.1 C.2.1 dX4_matches_69 (by decide) (fun hc => ?_) (fun hc => ?_)
        · have hf := iff_ hc hf
          refine lv_aload_n C.1 C.2.1 dX4_matches_91 rfl (lv_at hl 3 rfl) ?_
          refine lv_iconst (v := 0) C.1 C.2.1 dX4_matches_92 (by decide) ?_
          obtain ⟨v_7, hv_7, hf⟩ := bnd hf
          refine s_ldT C E hg hw hv_7 dX4_matches_93 ?_
          refine lv_iconst (v := 1) C.1 C.2.1 dX4_matches_94 (by decide) ?_
          refine lv_icmp_ne (tgt := 128) C.1 C.2.1 dX4_matches_95 (by decide) (fun hc => ?_) (fun hc => ?_)
          · have hf := iff_ hc hf
            refine lv_aload_n C.1 C.2.1 dX4_matches_128 rfl (lv_at hl 1 rfl) ?_
            refine lv_aload_n C.1 C.2.1 dX4_matches_129 rfl (lv_at hl 3 rfl) ?_
            refine lv_iconst (v := 1) C.1 C.2.1 dX4_matches_130 (by decide) ?_
            obtain ⟨v_8, hv_8, hf⟩ := bnd hf
            refine s_ldT C E hg hw hv_8 dX4_matches_131 ?_
            obtain ⟨j_9, hj_9, hf⟩ := bnd hf
            refine m_aa C E hw hj_9 dX4_matches_132 ?_
            refine lv_iload C.1 C.2.1 dX4_matches_133 (lv_at hl 4 rfl) ?_
            obtain ⟨v_10, hv_10, hf⟩ := bnd hf
            refine m_ld C E hw hv_10 dX4_matches_135 ?_
            refine lv_if_ne (tgt := 150) C.1 C.2.1 dX4_matches_136 (by decide) (fun hc => ?_) (fun hc => ?_)
            · have hf := iff_ hc hf
              refine lv_iconst (v := 1) C.1 C.2.1 dX4_matches_150 (by decide) ?_
              refine lv_goto (tgt := 155) C.1 C.2.1 dX4_matches_151 (by decide) ?_
              obtain ⟨B_11, hB_11, hf⟩ := bnd hf
              refine m_st C E hw hB_11 dX4_matches_155 (fun H locs hw => ?_)
              obtain ⟨x4_12, hx4_12, hf⟩ := bnd hf
              refine lv_iinc (v := x4_12) (lv' := [(4, .int x4_12), (0, .ref (r 0)), (1, .ref (qa)), (2, .int x2), (3, .ref (tq j3))]) C.1 C.2.1 dX4_matches_156 hl (k := 4) rfl (inc1 hx4_12) (by decide) rfl (fun ls hl => ?_)
              refine lv_goto (tgt := 33) C.1 C.2.1 dX4_matches_159 (by decide) ?_
              exact ih B_11 x4_12 hf _ _ _ _ _ hw (lv_sub hl [1, 2, 3, 4, 0] rfl)
            · have hf := ift hc hf
              refine lv_aload_n C.1 C.2.1 dX4_matches_139 rfl (lv_at hl 1 rfl) ?_
              refine lv_aload_n C.1 C.2.1 dX4_matches_140 rfl (lv_at hl 3 rfl) ?_
              refine lv_iconst (v := 2) C.1 C.2.1 dX4_matches_141 (by decide) ?_
              obtain ⟨v_13, hv_13, hf⟩ := bnd hf
              refine s_ldT C E hg hw hv_13 dX4_matches_142 ?_
              obtain ⟨j_14, hj_14, hf⟩ := bnd hf
              refine m_aa C E hw hj_14 dX4_matches_143 ?_
              refine lv_iload C.1 C.2.1 dX4_matches_144 (lv_at hl 4 rfl) ?_
              obtain ⟨v_15, hv_15, hf⟩ := bnd hf
              refine m_ld C E hw hv_15 dX4_matches_146 ?_
              refine lv_if_eq (tgt := 154) C.1 C.2.1 dX4_matches_147 (by decide) (fun hc => ?_) (fun hc => ?_)
              · have hf := ift hc hf
                refine lv_iconst (v := 0) C.1 C.2.1 dX4_matches_154 (by decide) ?_
                obtain ⟨B_16, hB_16, hf⟩ := bnd hf
                refine m_st C E hw hB_16 dX4_matches_155 (fun H locs hw => ?_)
                obtain ⟨x4_17, hx4_17, hf⟩ := bnd hf
                refine lv_iinc (v := x4_17) (lv' := [(4, .int x4_17), (0, .ref (r 0)), (1, .ref (qa)), (2, .int x2), (3, .ref (tq j3))]) C.1 C.2.1 dX4_matches_156 hl (k := 4) rfl (inc1 hx4_17) (by decide) rfl (fun ls hl => ?_)
                refine lv_goto (tgt := 33) C.1 C.2.1 dX4_matches_159 (by decide) ?_
                exact ih B_16 x4_17 hf _ _ _ _ _ hw (lv_sub hl [1, 2, 3, 4, 0] rfl)
              · have hf := iff_ hc hf
                refine lv_iconst (v := 1) C.1 C.2.1 dX4_matches_150 (by decide) ?_
                refine lv_goto (tgt := 155) C.1 C.2.1 dX4_matches_151 (by decide) ?_
                obtain ⟨B_18, hB_18, hf⟩ := bnd hf
                refine m_st C E hw hB_18 dX4_matches_155 (fun H locs hw => ?_)
                obtain ⟨x4_19, hx4_19, hf⟩ := bnd hf
                refine lv_iinc (v := x4_19) (lv' := [(4, .int x4_19), (0, .ref (r 0)), (1, .ref (qa)), (2, .int x2), (3, .ref (tq j3))]) C.1 C.2.1 dX4_matches_156 hl (k := 4) rfl (inc1 hx4_19) (by decide) rfl (fun ls hl => ?_)
                refine lv_goto (tgt := 33) C.1 C.2.1 dX4_matches_159 (by decide) ?_
                exact ih B_18 x4_19 hf _ _ _ _ _ hw (lv_sub hl [1, 2, 3, 4, 0] rfl)
          · have hf := ift hc hf
            refine lv_aload_n C.1 C.2.1 dX4_matches_98 rfl (lv_at hl 1 rfl) ?_
            refine lv_aload_n C.1 C.2.1 dX4_matches_99 rfl (lv_at hl 3 rfl) ?_
            refine lv_iconst (v := 1) C.1 C.2.1 dX4_matches_100 (by decide) ?_
            obtain ⟨v_20, hv_20, hf⟩ := bnd hf
            refine s_ldT C E hg hw hv_20 dX4_matches_101 ?_
            obtain ⟨j_21, hj_21, hf⟩ := bnd hf
            refine m_aa C E hw hj_21 dX4_matches_102 ?_
            refine lv_iload C.1 C.2.1 dX4_matches_103 (lv_at hl 4 rfl) ?_
            obtain ⟨v_22, hv_22, hf⟩ := bnd hf
            refine m_ld C E hw hv_22 dX4_matches_105 ?_
            refine lv_if_eq (tgt := 124) C.1 C.2.1 dX4_matches_106 (by decide) (fun hc => ?_) (fun hc => ?_)
            · have hf := ift hc hf
              refine lv_iconst (v := 0) C.1 C.2.1 dX4_matches_124 (by decide) ?_
              refine lv_goto (tgt := 155) C.1 C.2.1 dX4_matches_125 (by decide) ?_
              obtain ⟨B_23, hB_23, hf⟩ := bnd hf
              refine m_st C E hw hB_23 dX4_matches_155 (fun H locs hw => ?_)
              obtain ⟨x4_24, hx4_24, hf⟩ := bnd hf
              refine lv_iinc (v := x4_24) (lv' := [(4, .int x4_24), (0, .ref (r 0)), (1, .ref (qa)), (2, .int x2), (3, .ref (tq j3))]) C.1 C.2.1 dX4_matches_156 hl (k := 4) rfl (inc1 hx4_24) (by decide) rfl (fun ls hl => ?_)
              refine lv_goto (tgt := 33) C.1 C.2.1 dX4_matches_159 (by decide) ?_
              exact ih B_23 x4_24 hf _ _ _ _ _ hw (lv_sub hl [1, 2, 3, 4, 0] rfl)
            · have hf := iff_ hc hf
              refine lv_aload_n C.1 C.2.1 dX4_matches_109 rfl (lv_at hl 1 rfl) ?_
              refine lv_aload_n C.1 C.2.1 dX4_matches_110 rfl (lv_at hl 3 rfl) ?_
              refine lv_iconst (v := 2) C.1 C.2.1 dX4_matches_111 (by decide) ?_
              obtain ⟨v_25, hv_25, hf⟩ := bnd hf
              refine s_ldT C E hg hw hv_25 dX4_matches_112 ?_
              obtain ⟨j_26, hj_26, hf⟩ := bnd hf
              refine m_aa C E hw hj_26 dX4_matches_113 ?_
              refine lv_iload C.1 C.2.1 dX4_matches_114 (lv_at hl 4 rfl) ?_
              obtain ⟨v_27, hv_27, hf⟩ := bnd hf
              refine m_ld C E hw hv_27 dX4_matches_116 ?_
              refine lv_if_eq (tgt := 124) C.1 C.2.1 dX4_matches_117 (by decide) (fun hc => ?_) (fun hc => ?_)
              · have hf := ift hc hf
                refine lv_iconst (v := 0) C.1 C.2.1 dX4_matches_124 (by decide) ?_
                refine lv_goto (tgt := 155) C.1 C.2.1 dX4_matches_125 (by decide) ?_
                obtain ⟨B_28, hB_28, hf⟩ := bnd hf
                refine m_st C E hw hB_28 dX4_matches_155 (fun H locs hw => ?_)
                obtain ⟨x4_29, hx4_29, hf⟩ := bnd hf
                refine lv_iinc (v := x4_29) (lv' := [(4, .int x4_29), (0, .ref (r 0)), (1, .ref (qa)), (2, .int x2), (3, .ref (tq j3))]) C.1 C.2.1 dX4_matches_156 hl (k := 4) rfl (inc1 hx4_29) (by decide) rfl (fun ls hl => ?_)
                refine lv_goto (tgt := 33) C.1 C.2.1 dX4_matches_159 (by decide) ?_
                exact ih B_28 x4_29 hf _ _ _ _ _ hw (lv_sub hl [1, 2, 3, 4, 0] rfl)
              · have hf := iff_ hc hf
                refine lv_iconst (v := 1) C.1 C.2.1 dX4_matches_120 (by decide) ?_
                refine lv_goto (tgt := 155) C.1 C.2.1 dX4_matches_121 (by decide) ?_
                obtain ⟨B_30, hB_30, hf⟩ := bnd hf
                refine m_st C E hw hB_30 dX4_matches_155 (fun H locs hw => ?_)
                obtain ⟨x4_31, hx4_31, hf⟩ := bnd hf
                refine lv_iinc (v := x4_31) (lv' := [(4, .int x4_31), (0, .ref (r 0)), (1, .ref (qa)), (2, .int x2), (3, .ref (tq j3))]) C.1 C.2.1 dX4_matches_156 hl (k := 4) rfl (inc1 hx4_31) (by decide) rfl (fun ls hl => ?_)
                refine lv_goto (tgt := 33) C.1 C.2.1 dX4_matches_159 (by decide) ?_
                exact ih B_30 x4_31 hf _ _ _ _ _ hw (lv_sub hl [1, 2, 3, 4, 0] rfl)
        · have hf := ift hc hf
          refine lv_aload_n C.1 C.2.1 dX4_matches_72 rfl (lv_at hl 1 rfl) ?_
          refine lv_aload_n C.1 C.2.1 dX4_matches_73 rfl (lv_at hl 3 rfl) ?_
          refine lv_iconst (v := 1) C.1 C.2.1 dX4_matches_74 (by decide) ?_
          obtain ⟨v_32, hv_32, hf⟩ := bnd hf
          refine s_ldT C E hg hw hv_32 dX4_matches_75 ?_
          obtain ⟨j_33, hj_33, hf⟩ := bnd hf
          refine m_aa C E hw hj_33 dX4_matches_76 ?_
          refine lv_iload C.1 C.2.1 dX4_matches_77 (lv_at hl 4 rfl) ?_
          obtain ⟨v_34, hv_34, hf⟩ := bnd hf
          refine m_ld C E hw hv_34 dX4_matches_79 ?_
          refine lv_if_ne (tgt := 87) C.1 C.2.1 dX4_matches_80 (by decide) (fun hc => ?_) (fun hc => ?_)
          · have hf := iff_ hc hf
            refine lv_iconst (v := 0) C.1 C.2.1 dX4_matches_87 (by decide) ?_
            refine lv_goto (tgt := 155) C.1 C.2.1 dX4_matches_88 (by decide) ?_
            obtain ⟨B_35, hB_35, hf⟩ := bnd hf
            refine m_st C E hw hB_35 dX4_matches_155 (fun H locs hw => ?_)
            obtain ⟨x4_36, hx4_36, hf⟩ := bnd hf
            refine lv_iinc (v := x4_36) (lv' := [(4, .int x4_36), (0, .ref (r 0)), (1, .ref (qa)), (2, .int x2), (3, .ref (tq j3))]) C.1 C.2.1 dX4_matches_156 hl (k := 4) rfl (inc1 hx4_36) (by decide) rfl (fun ls hl => ?_)
            refine lv_goto (tgt := 33) C.1 C.2.1 dX4_matches_159 (by decide) ?_
            exact ih B_35 x4_36 hf _ _ _ _ _ hw (lv_sub hl [1, 2, 3, 4, 0] rfl)
          · have hf := ift hc hf
            refine lv_iconst (v := 1) C.1 C.2.1 dX4_matches_83 (by decide) ?_
            refine lv_goto (tgt := 155) C.1 C.2.1 dX4_matches_84 (by decide) ?_
            obtain ⟨B_37, hB_37, hf⟩ := bnd hf
            refine m_st C E hw hB_37 dX4_matches_155 (fun H locs hw => ?_)
            obtain ⟨x4_38, hx4_38, hf⟩ := bnd hf
            refine lv_iinc (v := x4_38) (lv' := [(4, .int x4_38), (0, .ref (r 0)), (1, .ref (qa)), (2, .int x2), (3, .ref (tq j3))]) C.1 C.2.1 dX4_matches_156 hl (k := 4) rfl (inc1 hx4_38) (by decide) rfl (fun ls hl => ?_)
            refine lv_goto (tgt := 33) C.1 C.2.1 dX4_matches_159 (by decide) ?_
            exact ih B_37 x4_38 hf _ _ _ _ _ hw (lv_sub hl [1, 2, 3, 4, 0] rfl)
      · have hf := ift hc hf
        refine lv_aload_n C.1 C.2.1 dX4_matches_53 rfl (lv_at hl 0 rfl) ?_
        refine lv_iload C.1 C.2.1 dX4_matches_54 (lv_at hl 4 rfl) ?_
        refine lv_aload_n C.1 C.2.1 dX4_matches_56 rfl (lv_at hl 3 rfl) ?_
        refine lv_iconst (v := 1) C.1 C.2.1 dX4_matches_57 (by decide) ?_
        obtain ⟨v_39, hv_39, hf⟩ := bnd hf
        refine s_ldT C E hg hw hv_39 dX4_matches_58 ?_
        obtain ⟨v_40, hv_40, hf⟩ := bnd hf
        refine m_si (rm := ({ frames := 1, cells := 0, slots := 0, locals := 23 } : Room)) (As := [.int x4, .int v_39]) (rest := [.int x4, .ref (mq j_4)]) C E hw F_X4_hasTag rfl (fun _ => ctX4_hasTag l (k := k) (D := D) (r := r) (tf := tf) (tq := tq) (nt := nt) T x4 v_39 _ hv_40) km_X4_43 rfl hl.1 rfl (Nat.le_of_ble_eq_true rfl) ⟨(Nat.le_of_ble_eq_true rfl), (Nat.le_of_ble_eq_true rfl)⟩ ⟨(Nat.le_of_ble_eq_true rfl), (Nat.le_of_ble_eq_true rfl)⟩ dX4_matches_59 (fun H locs hw => ?_)
        refine lv_goto (tgt := 155) C.1 C.2.1 dX4_matches_62 (by decide) ?_
        obtain ⟨B_41, hB_41, hf⟩ := bnd hf
        refine m_st C E hw hB_41 dX4_matches_155 (fun H locs hw => ?_)
        obtain ⟨x4_42, hx4_42, hf⟩ := bnd hf
        refine lv_iinc (v := x4_42) (lv' := [(4, .int x4_42), (0, .ref (r 0)), (1, .ref (qa)), (2, .int x2), (3, .ref (tq j3))]) C.1 C.2.1 dX4_matches_156 hl (k := 4) rfl (inc1 hx4_42) (by decide) rfl (fun ls hl => ?_)
        refine lv_goto (tgt := 33) C.1 C.2.1 dX4_matches_159 (by decide) ?_
        exact ih B_41 x4_42 hf _ _ _ _ _ hw (lv_sub hl [1, 2, 3, 4, 0] rfl)
def fX4_matches_15 (T : St) : Nat → St → Int32 → Option St
  | 0, _, _ => none
  | n + 1, B, x2 =>
    if (T 36 0) ≤ x2 then
      some B
    else
      Option.bind (ix (T 36 0).toNatClampNeg x2) fun j_2 =>
      fX4_matches_33 T x2 j_2 (fX4_matches_15 T n) 100 B 0
set_option maxHeartbeats 4000000 in
set_option maxRecDepth 100000 in
theorem wX4_matches_15 {p : Program} {l : Launch} {e : Env} {s : State} {m : MethodId} {args : Array Value} {below : List Frame} {meth : Method} {c : Code} {D : va_G} {k : Nat → ClassId} {r : Nat → Nat} {tf : Nat → Option Nat} {tq : Nat → Nat} {nt : Nat} (C : Ctx p s m args meth c cX4_matches 5 RX4 (some (.array (.array .boolean)))) (E : gEL D k s) {T : St} (hg : gok tf tq nt (T 36 0)) {B1 : St} : ∀ (n : Nat) (B : St) (x2 : Int32), fX4_matches_15 T n B x2 = some B1 → ∀ (qa : Nat) (mq : Nat → Nat) (H : Heap) (locs : List Loc) (ls : Array Slot), gW D (SN k r tf tq nt T) (SW k r tf tq nt T ++ (mat k qa mq (T 36 0).toNatClampNeg (T 35 0).toNatClampNeg B)) s H locs → lv_has ls 5 [(0, .ref (r 0)), (1, .ref (qa)), (2, .int x2)] → W p l e ({ frames := 2, cells := 21, slots := 520, locals := 46 } : Room) s m args below meth c H locs 21 520 (MQ below (gQM D k r tf tq nt T B1 s.heap.size) args s 21 520 (va_A (SN k r tf tq nt T) s.heap.size)) (F0 m 15 ls []) := by
  intro n
  induction n with
  | zero => intro B x2 hf; rw [fX4_matches_15] at hf; cases hf
  | succ n ih =>
    intro B x2 hf qa mq H locs ls hw hl
    rw [fX4_matches_15] at hf
    refine lv_iload_n C.1 C.2.1 dX4_matches_15 rfl (lv_at hl 2 rfl) ?_
    refine lv_aload_n C.1 C.2.1 dX4_matches_16 rfl (lv_at hl 0 rfl) ?_
    refine s_get C E hw 2 (by decide) kf_X4_37 rfl dX4_matches_17 ?_
    refine lv_icmp_ge (tgt := 168) C.1 C.2.1 dX4_matches_20 (by decide) (fun hc => ?_) (fun hc => ?_)
    · have hf := ift hc hf
      refine lv_aload_n C.1 C.2.1 dX4_matches_168 rfl (lv_at hl 1 rfl) ?_
      exact m_aret C hw (Nat.le_of_ble_eq_true rfl) (Nat.le_of_ble_eq_true rfl) (Option.some.inj hf) dX4_matches_169
    · have hf := iff_ hc hf
      refine lv_aload_n C.1 C.2.1 dX4_matches_23 rfl (lv_at hl 0 rfl) ?_
      refine s_get C E hw 8 (by decide) kf_X4_25 rfl dX4_matches_24 ?_
      refine lv_iload_n C.1 C.2.1 dX4_matches_27 rfl (lv_at hl 2 rfl) ?_
      obtain ⟨j_2, hj_2, hf⟩ := bnd hf
      refine s_aaT C E hg hw hj_2 dX4_matches_28 ?_
      refine lv_astore_n (lv' := [(3, .ref (tq j_2)), (0, .ref (r 0)), (1, .ref (qa)), (2, .int x2)]) C.1 C.2.1 dX4_matches_29 rfl hl (by decide) rfl (fun ls hl => ?_)
      refine lv_iconst (v := 0) C.1 C.2.1 dX4_matches_30 (by decide) ?_
      refine lv_istore (lv' := [(4, .int 0), (3, .ref (tq j_2)), (0, .ref (r 0)), (1, .ref (qa)), (2, .int x2)]) C.1 C.2.1 dX4_matches_31 hl (by decide) rfl (fun ls hl => ?_)
      exact wX4_matches_33 C E hg x2 j_2 (fX4_matches_15 T n) ih 100 B 0 hf _ _ _ _ _ hw (lv_sub hl [2, 3, 4, 1, 0] rfl)
