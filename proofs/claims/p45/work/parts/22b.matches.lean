def fX4_matches (T : St) : Option St :=
  Option.bind (mkM T) fun B_1 =>
  fX4_matches_15 T 100 B_1 0
set_option maxHeartbeats 4000000 in
set_option maxRecDepth 100000 in
theorem ctX4_matches (l : Launch) {D : va_G} {k : Nat → ClassId} {r : Nat → Nat} {tf : Nat → Option Nat} {tq : Nat → Nat} {nt : Nat} (T : St) (hg : gok tf tq nt (T 36 0)) (sz : Nat) {B1 : St} (hf : fX4_matches T = some B1) : Met l yX4_matches (Cond.code yX4_matches cX4_matches 5 (some (.array (.array .boolean))) :: XALL) ({ frames := 2, cells := 21, slots := 520, locals := 46 } : Room) (va_Pc [.ref (r 0)] (gPreL D k (SN k r tf tq nt T) sz)) (gQM D k r tf tq nt T B1 sz) 21 520 (va_A (SN k r tf tq nt T) sz) := by
  unfold fX4_matches at hf
  refine Met.ofW (cc := cX4_matches) (maxL := 5) (ret := (some (.array (.array .boolean)))) (by decide) rfl ?_
  intro p e s m args below meth c s₁ B hml hv
  obtain ⟨rfl, hgv⟩ := hv
  have C : Ctx p s m _ meth c cX4_matches 5 RX4 (some (.array (.array .boolean))) := Ctx.of B hml rfl
  obtain ⟨E, hw, hsz⟩ := gL_start hgv
  subst hsz
  have hl := lv_entry ([.ref (r 0)]) (n := 5) (Nat.le_of_ble_eq_true rfl)
  rw [lg_entry_eq]
  generalize (lg_sl ([.ref (r 0)]) ++ List.replicate (5 - (lg_sl ([.ref (r 0)])).length) Slot.unset).toArray = ls at hl ⊢
  have hl : lv_has ls 5 [(0, .ref (r 0))] := hl
  refine lv_aload_n C.1 C.2.1 dX4_matches_0 rfl (lv_at hl 0 rfl) ?_
  refine s_get C E hw 2 (by decide) kf_X4_37 rfl dX4_matches_1 ?_
  refine lv_aload_n C.1 C.2.1 dX4_matches_4 rfl (lv_at hl 0 rfl) ?_
  refine s_get C E hw 1 (by decide) kf_X4_40 rfl dX4_matches_5 ?_
  obtain ⟨B_1, hB_1, hf⟩ := bnd hf
  obtain ⟨h1, h2, h3, h4, h5⟩ := mkM_some hB_1
  refine g_newM C E hw kl_X4_13 _ _ h1 h3 rfl rfl (by omega) (by omega) (mkM_c h2) (mkM_s h2 h4) dX4_matches_8 (fun qa mq H hw => ?_)
  have hw := gW_sn hw
  rw [← h5] at hw
  refine W.widen (k := 21) (n := 520) (mkM_c1 h2) (mkM_s1 h2 h4) ?_
  refine lv_astore_n (lv' := [(1, .ref (qa)), (0, .ref (r 0))]) C.1 C.2.1 dX4_matches_12 rfl hl (by decide) rfl (fun ls hl => ?_)
  refine lv_iconst (v := 0) C.1 C.2.1 dX4_matches_13 (by decide) ?_
  refine lv_istore_n (lv' := [(2, .int 0), (1, .ref (qa)), (0, .ref (r 0))]) C.1 C.2.1 dX4_matches_14 rfl hl (by decide) rfl (fun ls hl => ?_)
  exact wX4_matches_15 C E hg 100 B_1 0 hf _ _ _ _ _ hw (lv_sub hl [2, 1, 0] rfl)
