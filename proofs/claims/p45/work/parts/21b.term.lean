/-! rows: a row of ints beside the world; a new term -/
def ldA (A : Nat → Int32) (n : Nat) (x : Int32) : Option Int32 := if x < 0 ∨ n ≤ x.toNatClampNeg then none else some (A x.toNatClampNeg)
theorem ldA_some {A : Nat → Int32} {n : Nat} {x v : Int32} (h : ldA A n x = some v) : vp_in x n ∧ A x.toNatClampNeg = v := by
  unfold ldA at h
  split at h
  · cases h
  · rename_i h1
    exact ⟨h1, Option.some.inj h⟩
def stA (A : Nat → Int32) (n : Nat) (x v : Int32) : Option (Nat → Int32) := if x < 0 ∨ n ≤ x.toNatClampNeg then none else some (upd A x.toNatClampNeg v)
theorem stA_some {A A' : Nat → Int32} {n : Nat} {x v : Int32} (h : stA A n x v = some A') : vp_in x n ∧ upd A x.toNatClampNeg v = A' := by
  unfold stA at h
  split at h
  · cases h
  · rename_i h1
    exact ⟨h1, Option.some.inj h⟩
theorem mkM_c {K : Nat} (h : K ≤ 20) : 0 + (1 + K) ≤ 21 := by omega
theorem mkM_c1 {K : Nat} (h : K ≤ 20) : 0 + 1 + K ≤ 21 := by omega
theorem mkM_s {K N : Nat} (h : K ≤ 20) (h2 : N ≤ 24) : 0 + (K + K * N) ≤ 520 := by
  have := Nat.mul_le_mul h h2
  omega
theorem mkM_s1 {K N : Nat} (h : K ≤ 20) (h2 : N ≤ 24) : 0 + K + K * N ≤ 520 := by
  have := Nat.mul_le_mul h h2
  omega
def nrow (a b c : Int32) : Nat → Int32 := upd (upd (upd (fun _ => 0) 0 a) 1 b) 2 c
def ntermS (T : St) (n : Int32) (j : Nat) (a b c : Int32) : St := fun q => if q = 40 + j then nrow a b c else up T 36 0 (n + 1) q
def nterm (T : St) (n a b c : Int32) : Option St := Option.bind (ix 20 n) fun j => if T 36 0 = n then some (ntermS T n j a b c) else none
theorem nterm_some {T T' : St} {n a b c : Int32} (h : nterm T n a b c = some T') : ∃ j, ix 20 n = some j ∧ T 36 0 = n ∧ T' = ntermS T n j a b c := by
  unfold nterm at h
  obtain ⟨j, hj, h⟩ := bnd h
  by_cases h1 : T 36 0 = n
  · rw [if_pos h1] at h
    exact ⟨j, hj, h1, (Option.some.inj h).symm⟩
  · rw [if_neg h1] at h
    cases h
theorem SW_set5 {k : Nat → ClassId} {r : Nat → Nat} {tf tf' : Nat → Option Nat} {tq : Nat → Nat} {nt : Nat} {T : St} : (SW k r tf tq nt T).set 5 (r 5, .inl (k 3, 20, refs tf')) = SW k r tf' tq nt T := by
  refine List.ext_getElem? (fun i => ?_)
  rw [List.getElem?_set]
  by_cases hip : 5 = i
  · subst hip
    rw [if_pos rfl, SW_at (by omega), if_pos (by rw [SW_len]; omega)]
    rfl
  · rw [if_neg hip]
    by_cases hi : i < 30 + nt
    · rw [SW_at hi, SW_at hi]
      congr 1
      match i with
      | 0 | 1 | 2 | 3 | 4 => rfl
      | 5 => exact absurd rfl hip
      | i + 6 => rw [swE_6, swE_6]
    · have n1 : ∀ z, (SW k r z tq nt T)[i]? = none := fun z => List.getElem?_eq_none (by rw [SW_len]; omega)
      rw [n1, n1]
theorem clamp_s {n : Int32} {j : Nat} (h : ix 20 n = some j) : (n + 1).toNatClampNeg = j + 1 ∧ n = nI j := by
  obtain ⟨h1, h2, h3⟩ := ix_some h
  have h4 : ¬ n < 0 := fun q => h1 (Or.inl q)
  have h5 : n = nI j := by
    obtain ⟨i, hi, rfl⟩ := nI_of h4
    rw [nI_clamp (by omega)] at h2
    rw [h2]
  refine ⟨?_, h5⟩
  rw [h5, nI_1, nI_clamp (by omega)]
section NTERM
variable {p : Program} {l : Launch} {e : Env} {R : Room} {s : State} {m : MethodId} {args : Array Value} {below : List Frame} {meth : Method} {c : Code} {H : Heap} {locs : List Loc} {cells slots : Nat} {Q : State → Prop}
variable {cc : ByteArray} {nL : Nat} {own : String} {ret : Option FieldType} {D : va_G} {k : Nat → ClassId} {qx r : Nat → Nat} {pc : Nat} {ls : Array Slot} {rest : List Value} {ws0 : va_W} {S T : St} {ex : va_W}
theorem gW_pick {w w' : va_W} (hw : gW D ws0 w s H locs) (f : Nat → Nat) (hf : ∀ (i : Nat) (x : Nat × va_E), w'[i]? = some x → w[f i]? = some x) (hinj : ∀ (i j : Nat) (x y : Nat × va_E), w'[i]? = some x → w'[j]? = some y → f i = f j → i = j) : gW D ws0 w' s H locs :=
  ⟨fun i x hx => hw.1 (f i) x (hf i x hx), ⟨fun i j x y hi hj hxy => hinj i j x y hi hj (hw.2.1.1 _ _ _ _ (hf i x hi) (hf j y hj) hxy), fun i x hx => hw.2.1.2 _ _ (hf i x hx)⟩, hw.2.2⟩
theorem l_aast (C : Ctx p s m args meth c cc nL own ret) (E : gEL D k s) {tf : Nat → Option Nat} {tq : Nat → Nat} {nt qa j : Nat} {A : Nat → Int32} (hw : gW D ws0 (LW k qx r tf tq nt S T [(qa, .inl (k 0, 3, .inl A))]) s H locs) {n : Int32} (hj : ix 20 n = some j) (hdg : decode cc pc = .ok (.aastore, 1))
    (kk : ∀ (H : Heap) (locs : List Loc), gW D ws0 (LW k qx r (va_up tf j (some qa)) tq nt S T [(qa, .inl (k 0, 3, .inl A))]) s H locs → W p l e R s m args below meth c H locs cells slots Q (F0 m (pc + 1) ls rest)) : W p l e R s m args below meth c H locs cells slots Q (F0 m pc ls (.ref qa :: .int n :: .ref (r 5) :: rest)) := by
  obtain ⟨h1, h2, h3⟩ := ix_some hj
  obtain ⟨comp, cB, kB, f1, -, f3, f4, f5⟩ := arrayOverA_spec (va_AOA.use (A := args) E.2.2.2)
  have g3 : s.vm.findClass ("[" ++ (FieldType.array .int).toString) = some (k 3) := (E.1.2 3 (k 3, .array .int) rfl).2
  have g0 : s.vm.findClass ("[" ++ (FieldType.int).toString) = some (k 0) := (E.1.2 0 (k 0, .int) rfl).2
  have e3 : cB = k 3 := Option.some.inj (f5.symm.trans g3)
  have e0 : comp = k 0 := Option.some.inj (f1.symm.trans g0)
  subst e3
  subst e0
  obtain ⟨kC, hkC, -⟩ := Vm.findClass_spec g0
  have h5 : (LW k qx r tf tq nt S T [(qa, .inl (k 0, 3, .inl A))])[21]? = some (r 5, .inl (k 3, 20, refs tf)) := LW_at (i := 5) (by omega)
  have hlt : n.toNatClampNeg < 20 := by omega
  have h0 : ¬ n < 0 := fun q => h1 (Or.inl q)
  refine W.aast C.1 C.2.1 (hw.1 21 _ h5) (fun q h => by cases h) (fun h => by cases h) f3 f4 rfl hkC ⟨h0, by show _ < (arrV _ _ _).slots.size; rw [arrV_size]; exact hlt⟩ (hw.1 (46 + nt) _ LW_last) (fun q h => by cases h) hkC (va_asg _ _) rfl rfl hdg fun H1 e z oq => ?_
  have hset : (LW k qx r tf tq nt S T [(qa, .inl (k 0, 3, .inl A))]).set 21 (r 5, .inl (k 3, 20, refs (va_up tf j (some qa)))) = LW k qx r (va_up tf j (some qa)) tq nt S T [(qa, .inl (k 0, 3, .inl A))] := by
    unfold LW
    have hx : (xw (k 0) qx S).length = 16 := rfl
    rw [List.set_append_right _ _ (by rw [hx]; omega), hx, List.set_append_left _ _ (by rw [SW_len]; omega), SW_set5]
  refine kk H1 _ ?_
  rw [← hset]
  refine ⟨hw.1.set hw.2.1 h5 ?_ oq, hw.2.1.set h5, hw.2.2.put z oq (hw.2.1.2 21 _ h5)⟩
  show H1[r 5]? = some (vp_cell _ _)
  rw [e]
  rw [vp_cell_q, vp_cell_q, arrV_store]
  congr 2
  funext q
  by_cases hq : q = n.toNatClampNeg
  · subst hq
    rw [← h2]
    simp [updV, va_up, va_rf]
  · simp [updV, va_up, hq, ← h2]
theorem LW_term {tf : Nat → Option Nat} {tq : Nat → Nat} {nt qa j : Nat} {n a b d : Int32} (hj : j ≤ nt) (hw : gW D ws0 (LW k qx r tf tq nt S (up T 36 0 (n + 1)) [(qa, .inl (k 0, 3, .inl (nrow a b d)))]) s H locs) : gW D ws0 (LW k qx r tf (fun i => if i = j then qa else tq i) (j + 1) S (ntermS T n j a b d) []) s H locs := by
  have hx : (xw (k 0) qx S).length = 16 := rfl
  have key : ∀ (i : Nat) (x : Nat × va_E), (LW k qx r tf (fun i => if i = j then qa else tq i) (j + 1) S (ntermS T n j a b d) [])[i]? = some x → (i < 46 + j ∧ (LW k qx r tf tq nt S (up T 36 0 (n + 1)) [(qa, .inl (k 0, 3, .inl (nrow a b d)))])[i]? = some x) ∨ (i = 46 + j ∧ x = (qa, .inl (k 0, 3, .inl (nrow a b d)))) := by
    intro i x hi
    by_cases h1 : i < 16
    · left
      refine ⟨by omega, ?_⟩
      unfold LW at hi ⊢
      rw [List.getElem?_append_left (by rw [hx]; exact h1)] at hi ⊢
      exact hi
    · obtain ⟨i, rfl⟩ : ∃ z, i = 16 + z := ⟨i - 16, by omega⟩
      by_cases h2 : i < 30 + (j + 1)
      · rw [LW_at h2] at hi
        by_cases h3 : i < 30 + j
        · left
          refine ⟨by omega, ?_⟩
          rw [LW_at (by omega), ← hi]
          congr 1
          have hT : ∀ q, q ≠ 40 + j → ntermS T n j a b d q = up T 36 0 (n + 1) q := fun q hq => by unfold ntermS; rw [if_neg hq]
          match i with
          | 0 =>
            show (r 0, Sum.inr (4, sfs r (up T 36 0 (n + 1)))) = (r 0, Sum.inr (4, sfs r (ntermS T n j a b d)))
            unfold sfs
            rw [hT 34 (by omega), hT 35 (by omega), hT 36 (by omega), hT 37 (by omega)]
          | 1 =>
            show (r 1, Sum.inl (k 0, 16, Sum.inl (up T 36 0 (n + 1) 1))) = (r 1, Sum.inl (k 0, 16, Sum.inl (ntermS T n j a b d 1)))
            rw [hT 1 (by omega)]
          | 2 => rfl
          | 3 =>
            show (r 3, Sum.inl (k 0, 24, Sum.inl (up T 36 0 (n + 1) 3))) = (r 3, Sum.inl (k 0, 24, Sum.inl (ntermS T n j a b d 3)))
            rw [hT 3 (by omega)]
          | 4 =>
            show (r 4, Sum.inl (k 0, 24, Sum.inl (up T 36 0 (n + 1) 4))) = (r 4, Sum.inl (k 0, 24, Sum.inl (ntermS T n j a b d 4)))
            rw [hT 4 (by omega)]
          | 5 => rfl
          | i + 6 =>
            rw [swE_6, swE_6]
            by_cases h9 : i < 24
            · rw [if_pos h9, if_pos h9, hT (10 + i) (by omega)]
            · rw [if_neg h9, if_neg h9, hT (40 + (i - 24)) (by omega), if_neg (by omega)]
        · right
          have h4 : i = 30 + j := by omega
          subst h4
          refine ⟨by omega, ?_⟩
          have hi := Option.some.inj hi
          rw [← hi, swE_term]
          unfold ntermS
          rw [if_pos rfl, if_pos rfl]
      · exfalso
        unfold LW at hi
        rw [List.append_nil, List.getElem?_eq_none (by rw [List.length_append, SW_len, hx]; omega)] at hi
        cases hi
  refine gW_pick hw (fun i => if i = 46 + j then 46 + nt else i) (fun i x hi => ?_) (fun i i2 x y hi hi2 he => ?_)
  · rcases key i x hi with ⟨h1, h2⟩ | ⟨h1, h2⟩
    · show _[if i = 46 + j then 46 + nt else i]? = _
      rw [if_neg (by omega)]
      exact h2
    · show _[if i = 46 + j then 46 + nt else i]? = _
      rw [if_pos h1, h2]
      exact LW_last
  · have a1 : i ≤ 46 + j := by rcases key i x hi with ⟨h1, h2⟩ | ⟨h1, h2⟩ <;> omega
    have a2 : i2 ≤ 46 + j := by rcases key i2 y hi2 with ⟨h1, h2⟩ | ⟨h1, h2⟩ <;> omega
    have he : (if i = 46 + j then 46 + nt else i) = if i2 = 46 + j then 46 + nt else i2 := he
    by_cases q1 : i = 46 + j <;> by_cases q2 : i2 = 46 + j
    · omega
    · rw [if_pos q1, if_neg q2] at he; omega
    · rw [if_neg q1, if_pos q2] at he; omega
    · rw [if_neg q1, if_neg q2] at he; omega
set_option maxHeartbeats 4000000 in
theorem l_nterm (C : Ctx p s m args meth c cL_act 15 RL (some .boolean)) (E : gEL D k s) (hw : gS D ws0 k qx r S T [] s H locs) {n a b d : Int32} {T' : St} (h : nterm T n a b d = some T') (hl : lv_has ls 15 [(1, .ref (r 0)), (11, .int n), (12, .int a), (13, .int b), (14, .int d)]) (hc : 0 + 1 ≤ R.cells) (hs : 0 + 3 ≤ R.slots)
    (kk : ∀ (H : Heap) (locs : List Loc), gS D ws0 k qx r S T' [] s H locs → W p l e R s m args below meth c H locs 1 3 Q (F0 m 831 ls [])) : W p l e R s m args below meth c H locs 0 0 Q (F0 m 796 ls []) := by
  obtain ⟨j, hj, hT, rfl⟩ := nterm_some h
  refine lv_aload_n C.1 C.2.1 dL_act_796 rfl (lv_at hl 0 rfl) ?_
  refine l_get C E hw 8 (by decide) kf_L_88 rfl dL_act_797 ?_
  refine lv_iload C.1 C.2.1 dL_act_800 (lv_at hl 1 rfl) ?_
  refine lv_iconst (v := 3) C.1 C.2.1 dL_act_802 (by decide) ?_
  refine l_newa C E hw 3 (by decide) (by decide) (by decide) hc hs dL_act_803 (fun qa H locs hw => ?_)
  refine lv_dup C.1 C.2.1 dL_act_805 rfl ?_
  refine lv_iconst (v := 0) C.1 C.2.1 dL_act_806 (by decide) ?_
  refine lv_iload C.1 C.2.1 dL_act_807 (lv_at hl 2 rfl) ?_
  refine l_xst C E hw (by unfold vp_in; decide) dL_act_809 (fun H locs hw => ?_)
  refine lv_dup C.1 C.2.1 dL_act_810 rfl ?_
  refine lv_iconst (v := 1) C.1 C.2.1 dL_act_811 (by decide) ?_
  refine lv_iload C.1 C.2.1 dL_act_812 (lv_at hl 3 rfl) ?_
  refine l_xst C E hw (by unfold vp_in; decide) dL_act_814 (fun H locs hw => ?_)
  refine lv_dup C.1 C.2.1 dL_act_815 rfl ?_
  refine lv_iconst (v := 2) C.1 C.2.1 dL_act_816 (by decide) ?_
  refine lv_iload C.1 C.2.1 dL_act_817 (lv_at hl 4 rfl) ?_
  refine l_xst C E hw (by unfold vp_in; decide) dL_act_819 (fun H locs hw => ?_)
  obtain ⟨tf, tq, nt, hg, hw⟩ := hw
  have hw : gW D ws0 (LW k qx r tf tq nt S T [(qa, .inl (k 0, 3, .inl (nrow a b d)))]) s H locs := hw
  refine l_aast C E hw hj dL_act_820 (fun H locs hw => ?_)
  refine lv_aload_n C.1 C.2.1 dL_act_821 rfl (lv_at hl 0 rfl) ?_
  refine lv_dup C.1 C.2.1 dL_act_822 rfl ?_
  refine s_get C E (LW_sw hw) 2 (by decide) kf_L_82 rfl dL_act_823 ?_
  refine lv_iconst (v := 1) C.1 C.2.1 dL_act_826 (by decide) ?_
  refine lv_iadd C.1 C.2.1 dL_act_827 ?_
  rw [hT]
  have hset := LW_set (k := k) (qx := qx) (r := r) (S := S) (ex := [(qa, .inl (k 0, 3, .inl (nrow a b d)))]) (tf := va_up tf j (some qa)) (tq := tq) (nt := nt) (i := 0) (T := T) (T' := up T (34 + 2) 0 (n + 1)) (a := 34 + 2) (by omega) (Or.inl ⟨rfl, by omega, by omega⟩) (fun b hb => up_oth hb)
  rw [swE_00 2 (by decide) (n + 1)] at hset
  refine g_put C E.E hw inW4 tyX4 tyX4_ok nmX4 16 (fs := sfs r T) (LW_at (i := 0) (by omega)) rfl 2 (by omega) kf_L_82 (tx4_i 2 (by decide)).1 (tx4_i 2 (by decide)).2 (by show 2 < 9; omega) hset dL_act_828 (fun H locs hw => ?_)
  obtain ⟨c1, c2⟩ := clamp_s hj
  obtain ⟨-, h2, h3⟩ := ix_some hj
  have hjn : j ≤ nt := by have := hg.2.1; rw [hT] at this; omega
  refine kk H locs ⟨va_up tf j (some qa), _, j + 1, ⟨fun i hi => ?_, ?_, by omega⟩, LW_term hjn hw⟩
  · by_cases hij : i = j
    · subst hij
      simp [va_up]
    · rw [if_neg hij]
      have := hg.1 i (by omega)
      simp [va_up, hij, this]
  · have : ntermS T n j a b d 36 0 = n + 1 := by
      unfold ntermS
      rw [if_neg (by omega), up_same]
      rfl
    rw [this, c1]
    exact Nat.le_refl _
end NTERM
