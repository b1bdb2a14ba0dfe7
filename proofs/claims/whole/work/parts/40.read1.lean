/-! READING -/
theorem n10 : ¬ ((1 : Int32) = 0) := by decide
theorem xb_i {β : Type} (f : String → β) (g : β) : xb (Sum.inr ()) f g = g := rfl
theorem ab_m {P P' L : Nat → Int32} {t : Nat} (h : P' t = P t) : ab P' L t = ab P L t := by unfold ab; rw [h]
theorem ab_x {X M : St} {T N K : Nat} (hR : XR X M T N K) {t : Nat} (ht : t < T) : ab (M 0) (X 5) t = ab (X 4) (X 5) t := ab_m (hR.2.2.2.2.1 t ht)
theorem countAbove_n {X : St} {T : Nat} (h : TT (X 4) (X 5) T) (hT : T ≤ 16) {t : Nat} (ht : t < T) : fX1_countAbove X (nI t) = some (nI (cnt (ab (X 4) (X 5) t))) := by
  unfold fX1_countAbove
  rw [ld_n (by omega) (by omega), bS, bitCount_n, bS, tt_rank h hT ht, nI_pred]
theorem standsBelow_n {X : St} {T : Nat} (h : TT (X 4) (X 5) T) (hT : T ≤ 16) {t u : Nat} (ht : t < T) (hu : u < 32) : fX1_standsBelow X (nI t) (nI u) = some (if bt (ab (X 4) (X 5) t) u = true then 1 else 0) := by
  unfold fX1_standsBelow
  by_cases e : t = u
  · subst e
    rw [if_pos rfl, tt_no h hT ht]
    rfl
  · rw [if_neg (fun q => e ((nI_eq (by omega) (by omega)).mp q)), ld_n (by omega) (by omega), bS, isIn_n hu, bS, tt_b h hT ht, decide_eq_false (fun q => e q.symm), Bool.false_or]
    cases bt (ab (X 4) (X 5) t) u <;> rfl
theorem below_n {M : St} {L : Nat → Int32} {T : Nat} (h : TT (M 0) L T) (hT : T ≤ 16) {t u : Nat} (ht : t < T) (hu : u < 32) : fX4_below M (nI t) (nI u) = some (if bt (ab (M 0) L t) u = true then 1 else 0) := by
  unfold fX4_below
  rw [above_n hT h ht, bS, is_n hu, bS, zgB, bS]
theorem countBelow_n {X : St} {T : Nat} (h14 : X 14 0 = nI T) (h : TT (X 4) (X 5) T) (hT : T ≤ 16) {u : Nat} (hu : u < 32) : fX1_countBelow X (nI u) = some (nI (fb_ct (fun i => bt (ab (X 4) (X 5) i) u) T)) := by
  unfold fX1_countBelow
  refine loop100 (f := fX1_countBelow_4 X (nI u)) (st := fun i => nI (fb_ct (fun i => bt (ab (X 4) (X 5) i) u) i)) (T := T) (by omega) ?_ ?_
  · intro n
    rw [fX1_countBelow_4, h14, if_pos gT]
  · intro n i hi
    rw [fX1_countBelow_4, h14, if_neg (gL hi (by omega)), standsBelow_n h hT hi hu, bS, fb_ct_succ]
    cases bt (ab (X 4) (X 5) i) u
    · rw [isF, if_pos rfl, bS, nI_1]
      rfl
    · rw [if_pos rfl, if_neg n10, bS, bS, nI_1, nI_1]
      rfl
theorem tagsUnder_n {M : St} {L : Nat → Int32} {T : Nat} (h11 : M 11 0 = nI T) (h : TT (M 0) L T) (hT : T ≤ 16) {u : Nat} (hu : u < 32) : fX4_tagsUnder M (nI u) = some (nI (fb_ct (fun i => bt (ab (M 0) L i) u) T)) := by
  unfold fX4_tagsUnder
  refine loop100 (f := fX4_tagsUnder_4 M (nI u)) (st := fun i => nI (fb_ct (fun i => bt (ab (M 0) L i) u) i)) (T := T) (by omega) ?_ ?_
  · intro n
    rw [fX4_tagsUnder_4, h11, if_pos gT]
  · intro n i hi
    rw [fX4_tagsUnder_4, h11, if_neg (gL hi (by omega)), below_n h hT hi hu, bS, fb_ct_succ]
    unfold fX4_tagsUnder_27
    cases bt (ab (M 0) L i) u
    · rw [isF, if_pos rfl, bS, bS, nI_1, Int32.add_zero]
      rfl
    · rw [if_pos rfl, if_neg n10, bS, bS, nI_1, nI_1]
      rfl
theorem ctb_x {X M : St} {T N K : Nat} (hR : XR X M T N K) (u : Nat) : fb_ct (fun i => bt (ab (M 0) (X 5) i) u) T = fb_ct (fun i => bt (ab (X 4) (X 5) i) u) T := fb_ct_cong (fun i hi => by rw [ab_x hR hi])
/-- the first of the highest -/
def low (m : Int32) (c : Nat → Nat) : Nat → Option Nat
  | 0 => none
  | i + 1 => if bt m i = true then (match low m c i with | none => some i | some j => if c i ≤ c j then some j else some i) else low m c i
def oI : Option Nat → Int32
  | none => -1
  | some j => nI j
def oC (c : Nat → Nat) : Option Nat → Int32
  | none => -1
  | some j => nI (c j)
theorem low_lt (m : Int32) (c : Nat → Nat) : ∀ (i j : Nat), low m c i = some j → j < i := by
  intro i
  induction i with
  | zero => intro j h; cases h
  | succ i ih =>
    intro j h
    unfold low at h
    split at h
    · split at h
      · cases h; omega
      · rename_i j' hj
        have := ih j' hj
        split at h <;> (cases h; omega)
    · have := ih j h
      omega
theorem lowestOf_n {X : St} {T : Nat} (h14 : X 14 0 = nI T) (h : TT (X 4) (X 5) T) (hT : T ≤ 16) (m : Int32) : fX1_lowestOf X m = some (oI (low m (fun i => cnt (ab (X 4) (X 5) i)) T)) := by
  unfold fX1_lowestOf
  have hc : ∀ i, cnt (ab (X 4) (X 5) i) ≤ 32 := fun i => cnt_le _
  refine loop100 (f := fun n (p : Int32 × Int32) i => fX1_lowestOf_7 X m n p.1 p.2 i) (st := fun i => (oI (low m (fun i => cnt (ab (X 4) (X 5) i)) i), oC (fun i => cnt (ab (X 4) (X 5) i)) (low m (fun i => cnt (ab (X 4) (X 5) i)) i))) (T := T) (by omega) ?_ ?_
  · intro n
    show fX1_lowestOf_7 X m (n + 1) _ _ _ = _
    rw [fX1_lowestOf_7, h14, if_pos gT]
  · intro n i hi
    show fX1_lowestOf_7 X m (n + 1) _ _ _ = fX1_lowestOf_7 X m n _ _ _
    rw [fX1_lowestOf_7, h14, if_neg (gL hi (by omega)), isIn_n (by omega), bS, low]
    cases hb : bt m i
    · rw [isF, if_pos rfl, if_neg (by decide), bS, nI_1]
    · rw [if_pos rfl, if_neg n10, if_pos rfl, countAbove_n h hT hi, bS]
      cases low m (fun i => cnt (ab (X 4) (X 5) i)) i with
      | none =>
        have hn : ¬ nI (cnt (ab (X 4) (X 5) i)) ≤ -1 := by
          rw [Int32.le_iff_toInt_le, nI_toInt (by have := hc i; omega)]
          have : (-1 : Int32).toInt = -1 := by decide
          omega
        show (if nI (cnt (ab (X 4) (X 5) i)) ≤ -1 then _ else _) = _
        rw [if_neg hn, bS, bS, nI_1]
        rfl
      | some j =>
        show (if nI (cnt (ab (X 4) (X 5) i)) ≤ nI (cnt (ab (X 4) (X 5) j)) then _ else _) = _
        by_cases e : cnt (ab (X 4) (X 5) i) ≤ cnt (ab (X 4) (X 5) j)
        · rw [if_pos (nI_le e (by have := hc j; omega)), bS, nI_1]
          show _ = fX1_lowestOf_7 X m n (oI (if _ then _ else _)) (oC _ (if _ then _ else _)) _
          rw [if_pos e]
        · rw [if_neg (nI_ge (by omega) (by have := hc i; omega)), bS, bS, nI_1]
          show _ = fX1_lowestOf_7 X m n (oI (if _ then _ else _)) (oC _ (if _ then _ else _)) _
          rw [if_neg e]
          rfl
theorem near53 {M : St} {L : Nat → Int32} {T : Nat} (h11 : M 11 0 = nI T) (h : TT (M 0) L T) (hT : T ≤ 16) (m : Int32) : fX4_nearestAbove_53 m 100 M (-1) 0 = some (oI (low m (fun i => cnt (ab (M 0) L i)) T), M) := by
  have hc : ∀ i, cnt (ab (M 0) L i) ≤ 32 := fun i => cnt_le _
  refine loop100 (f := fun n (x : Int32) i => fX4_nearestAbove_53 m n M x i) (st := fun i => oI (low m (fun i => cnt (ab (M 0) L i)) i)) (T := T) (by omega) ?_ ?_
  · intro n
    show fX4_nearestAbove_53 m (n + 1) M _ _ = _
    rw [fX4_nearestAbove_53, h11, if_pos gT]
  · intro n i hi
    show fX4_nearestAbove_53 m (n + 1) M _ _ = fX4_nearestAbove_53 m n M _ _
    rw [fX4_nearestAbove_53, h11, if_neg (gL hi (by omega)), is_n (by omega), bS, low]
    unfold fX4_nearestAbove_98
    cases hb : bt m i
    · rw [isF, if_pos rfl, if_neg (by decide), bS, nI_1]
    · rw [if_pos rfl, if_neg n10, if_pos rfl]
      cases hl : low m (fun i => cnt (ab (M 0) L i)) i with
      | none =>
        show (if (-1 : Int32) = -1 then _ else _) = _
        rw [if_pos rfl, bS, nI_1]
        rfl
      | some j =>
        have hj := low_lt _ _ _ _ hl
        show (if nI j = -1 then _ else _) = _
        rw [if_neg (nI_m1 (by omega)), above_n hT h hi, bS, many_n, bS]
        show Option.bind (fX4_above M (nI j)) _ = _
        rw [above_n hT h (show j < T by omega), bS, many_n, bS]
        by_cases e : cnt (ab (M 0) L i) ≤ cnt (ab (M 0) L j)
        · rw [if_pos (nI_le e (by have := hc j; omega)), bS, nI_1]
          show _ = fX4_nearestAbove_53 m n M (oI (if _ then _ else _)) _
          rw [if_pos e]
        · rw [if_neg (nI_ge (by omega) (by have := hc i; omega)), bS, nI_1]
          show _ = fX4_nearestAbove_53 m n M (oI (if _ then _ else _)) _
          rw [if_neg e]
          rfl
theorem low_congr {m : Int32} {c c' : Nat → Nat} : ∀ (n : Nat), (∀ i, i < n → c i = c' i) → low m c n = low m c' n := by
  intro n
  induction n with
  | zero => intro _; rfl
  | succ n ih =>
    intro h
    unfold low
    rw [ih (fun i hi => h i (by omega))]
    split
    · cases hl : low m c' n with
      | none => rfl
      | some j =>
        show (if c n ≤ c j then _ else _) = (if c' n ≤ c' j then _ else _)
        rw [h n (by omega), h j (by have := low_lt _ _ _ _ hl; omega)]
    · rfl
theorem op_hasParent {X M : St} (a1 : Int32) (h : Rel X M) : ∃ R r M1, fX3_hasParent X a1 = some R ∧ fX4_hasParent M a1 = some (r, M1) ∧ AgR [IOB] X R r M1 := by
  obtain ⟨T, N, K, M0, e0, z0, hI, hR⟩ := rel_s h
  have hI' := hI
  obtain ⟨hT, hN, hK, h14, h12, h15, hXT, hXD, hXK, hXM⟩ := hI
  rcases g_tag h14 hR.1 hT a1 with ⟨g0, m0⟩ | ⟨t, ht, rfl, g0, m0⟩
  · exact ⟨Sum.inl IOB, 0, up M0 10 0 1, by unfold fX3_hasParent; rw [g0]; rfl, by unfold fX4_hasParent; rw [← e0, bS, m0]; rfl, agR_no (by decide) (by decide) hI' hR⟩
  · skip
    refine ⟨Sum.inr (if X 4 t = -1 then 0 else 1), if X 4 t = -1 then 0 else 1, M0, ?_, ?_, ?_⟩
    · unfold fX3_hasParent
      rw [g0, bS, xb_i]
      rw [ld_n (by omega) (by omega), bS]
      split <;> rfl
    · unfold fX4_hasParent
      rw [← e0, bS, m0, bS, if_neg n10]
      rw [ld_n (by omega) (by omega), bS, hR.2.2.2.2.1 t ht]
      split <;> rfl
    · exact agR_ok (rel_of hI' hR) z0
theorem op_tagsAbove {X M : St} (a1 : Int32) (h : Rel X M) : ∃ R r M1, fX3_tagsAbove X a1 = some R ∧ fX4_tagsAbove M a1 = some (r, M1) ∧ AgR [IOB] X R r M1 := by
  obtain ⟨T, N, K, M0, e0, z0, hI, hR⟩ := rel_s h
  have hI' := hI
  obtain ⟨hT, hN, hK, h14, h12, h15, hXT, hXD, hXK, hXM⟩ := hI
  rcases g_tag h14 hR.1 hT a1 with ⟨g0, m0⟩ | ⟨t, ht, rfl, g0, m0⟩
  · exact ⟨Sum.inl IOB, 0, up M0 10 0 1, by unfold fX3_tagsAbove; rw [g0]; rfl, by unfold fX4_tagsAbove; rw [← e0, bS, m0]; rfl, agR_no (by decide) (by decide) hI' hR⟩
  · skip
    refine ⟨Sum.inr (nI (cnt (ab (X 4) (X 5) t))), nI (cnt (ab (X 4) (X 5) t)), M0, ?_, ?_, ?_⟩
    · unfold fX3_tagsAbove
      rw [g0, bS, xb_i]
      rw [countAbove_n hXT hT ht, bS]
    · unfold fX4_tagsAbove
      rw [← e0, bS, m0, bS, if_neg n10]
      rw [above_n hT (tt_m hI' hR) ht, bS, many_n, bS, ab_x hR ht]
    · exact agR_ok (rel_of hI' hR) z0
theorem op_tagsBelow {X M : St} (a1 : Int32) (h : Rel X M) : ∃ R r M1, fX3_tagsBelow X a1 = some R ∧ fX4_tagsBelow M a1 = some (r, M1) ∧ AgR [IOB] X R r M1 := by
  obtain ⟨T, N, K, M0, e0, z0, hI, hR⟩ := rel_s h
  have hI' := hI
  obtain ⟨hT, hN, hK, h14, h12, h15, hXT, hXD, hXK, hXM⟩ := hI
  rcases g_tag h14 hR.1 hT a1 with ⟨g0, m0⟩ | ⟨t, ht, rfl, g0, m0⟩
  · exact ⟨Sum.inl IOB, 0, up M0 10 0 1, by unfold fX3_tagsBelow; rw [g0]; rfl, by unfold fX4_tagsBelow; rw [← e0, bS, m0]; rfl, agR_no (by decide) (by decide) hI' hR⟩
  · skip
    refine ⟨Sum.inr (nI (fb_ct (fun i => bt (ab (X 4) (X 5) i) t) T)), nI (fb_ct (fun i => bt (ab (X 4) (X 5) i) t) T), M0, ?_, ?_, ?_⟩
    · unfold fX3_tagsBelow
      rw [g0, bS, xb_i]
      rw [countBelow_n h14 hXT hT (by omega), bS]
    · unfold fX4_tagsBelow
      rw [← e0, bS, m0, bS, if_neg n10]
      rw [tagsUnder_n hR.1 (tt_m hI' hR) hT (by omega), bS, ctb_x hR t]
    · exact agR_ok (rel_of hI' hR) z0
theorem op_isBelow {X M : St} (a1 a2 : Int32) (h : Rel X M) : ∃ R r M1, fX3_isBelow X a1 a2 = some R ∧ fX4_isBelow M a1 a2 = some (r, M1) ∧ AgR [IOB] X R r M1 := by
  obtain ⟨T, N, K, M0, e0, z0, hI, hR⟩ := rel_s h
  have hI' := hI
  obtain ⟨hT, hN, hK, h14, h12, h15, hXT, hXD, hXK, hXM⟩ := hI
  rcases g_tag h14 hR.1 hT a1 with ⟨g0, m0⟩ | ⟨t, ht, rfl, g0, m0⟩
  · exact ⟨Sum.inl IOB, 0, up M0 10 0 1, by unfold fX3_isBelow; rw [g0]; rfl, by unfold fX4_isBelow; rw [← e0, bS, m0]; rfl, agR_no (by decide) (by decide) hI' hR⟩
  · skip
    rcases g_tag h14 hR.1 hT a2 with ⟨g1, m1⟩ | ⟨u, hu, rfl, g1, m1⟩
    · exact ⟨Sum.inl IOB, 0, up M0 10 0 1, by unfold fX3_isBelow; rw [g0, bS, xb_i, g1]; rfl, by unfold fX4_isBelow; rw [← e0, bS, m0, bS, if_neg n10, m1]; rfl, agR_no (by decide) (by decide) hI' hR⟩
    · skip
      refine ⟨Sum.inr (if bt (ab (X 4) (X 5) t) u = true then 1 else 0), if bt (ab (X 4) (X 5) t) u = true then 1 else 0, M0, ?_, ?_, ?_⟩
      · unfold fX3_isBelow
        rw [g0, bS, xb_i, g1, bS, xb_i]
        rw [standsBelow_n hXT hT ht (by omega), bS, zgB, bS]
      · unfold fX4_isBelow
        rw [← e0, bS, m0, bS, if_neg n10, m1, bS, if_neg n10]
        rw [below_n (tt_m hI' hR) hT ht (by omega), bS, zgB, bS, ab_x hR ht]
      · exact agR_ok (rel_of hI' hR) z0
theorem op_nearestAbove {X M : St} (a1 a2 : Int32) (h : Rel X M) : ∃ R r M1, fX3_nearestAbove X a1 a2 = some R ∧ fX4_nearestAbove M a1 a2 = some (r, M1) ∧ AgR [IOB] X R r M1 := by
  obtain ⟨T, N, K, M0, e0, z0, hI, hR⟩ := rel_s h
  have hI' := hI
  obtain ⟨hT, hN, hK, h14, h12, h15, hXT, hXD, hXK, hXM⟩ := hI
  rcases g_tag h14 hR.1 hT a1 with ⟨g0, m0⟩ | ⟨t, ht, rfl, g0, m0⟩
  · exact ⟨Sum.inl IOB, 0, up M0 10 0 1, by unfold fX3_nearestAbove; rw [g0]; rfl, by unfold fX4_nearestAbove; rw [← e0, bS, m0]; rfl, agR_no (by decide) (by decide) hI' hR⟩
  · skip
    rcases g_tag h14 hR.1 hT a2 with ⟨g1, m1⟩ | ⟨u, hu, rfl, g1, m1⟩
    · exact ⟨Sum.inl IOB, 0, up M0 10 0 1, by unfold fX3_nearestAbove; rw [g0, bS, xb_i, g1]; rfl, by unfold fX4_nearestAbove; rw [← e0, bS, m0, bS, if_neg n10, m1]; rfl, agR_no (by decide) (by decide) hI' hR⟩
    · skip
      refine ⟨Sum.inr (oI (low (X 5 t &&& X 5 u) (fun i => cnt (ab (X 4) (X 5) i)) T)), oI (low (X 5 t &&& X 5 u) (fun i => cnt (ab (X 4) (X 5) i)) T), M0, ?_, ?_, ?_⟩
      · unfold fX3_nearestAbove
        rw [g0, bS, xb_i, g1, bS, xb_i]
        rw [ld_n (by omega) (by omega), bS, ld_n (by omega) (by omega), bS, lowestOf_n h14 hXT hT, bS]
      · unfold fX4_nearestAbove
        rw [← e0, bS, m0, bS, if_neg n10, m1, bS, if_neg n10]
        have k1 : ∀ t, t < T → (ab (M0 0) (X 5) t ||| ((1 : Int32) <<< (nI t &&& 31))) = X 5 t := fun t ht => by
          rw [Int32.or_comm]
          exact (tt_L (tt_m hI' hR) ht).symm
        rw [above_n hT (tt_m hI' hR) ht, bS, above_n hT (tt_m hI' hR) hu, bS, bS, k1 t ht, k1 u hu, near53 hR.1 (tt_m hI' hR) hT, low_congr T (fun i hi => by rw [ab_x hR hi])]
      · exact agR_ok (rel_of hI' hR) z0
theorem op_dreamsWith {X M : St} (a1 : Int32) (h : Rel X M) : ∃ R r M1, fX3_dreamsWith X a1 = some R ∧ fX4_dreamsWith M a1 = some (r, M1) ∧ AgR [IOB] X R r M1 := by
  obtain ⟨T, N, K, M0, e0, z0, hI, hR⟩ := rel_s h
  have hI' := hI
  obtain ⟨hT, hN, hK, h14, h12, h15, hXT, hXD, hXK, hXM⟩ := hI
  rcases g_tag h14 hR.1 hT a1 with ⟨g0, m0⟩ | ⟨t, ht, rfl, g0, m0⟩
  · exact ⟨Sum.inl IOB, 0, up M0 10 0 1, by unfold fX3_dreamsWith; rw [g0]; rfl, by unfold fX4_dreamsWith; rw [← e0, bS, m0]; rfl, agR_no (by decide) (by decide) hI' hR⟩
  · skip
    obtain ⟨Mr, q1, q7, q8, q9, qo, hRr⟩ := r_reck hI' hR
    have z0r : Mr 10 0 = 0 := by rw [qo 10 (by decide) (by decide) (by decide), z0]
    refine ⟨Sum.inr (nI (cnt (dhf (X 1) t N))), nI (cnt (dhf (X 1) t N)), Mr, ?_, ?_, ?_⟩
    · unfold fX3_dreamsWith
      rw [g0, bS, xb_i]
      rw [dreamsHaving_n h12 hN (by omega), bS, bitCount_n, bS]
    · unfold fX4_dreamsWith
      rw [← e0, bS, m0, bS, if_neg n10]
      rw [q1, bS, ld_n (by omega) (by omega), bS, q8 t ht, many_n, bS]
    · exact agR_ok (rel_of hI' hRr) z0r
theorem op_hasOwnTag {X M : St} (a1 a2 : Int32) (h : Rel X M) : ∃ R r M1, fX3_hasOwnTag X a1 a2 = some R ∧ fX4_hasOwnTag M a1 a2 = some (r, M1) ∧ AgR [IOB] X R r M1 := by
  obtain ⟨T, N, K, M0, e0, z0, hI, hR⟩ := rel_s h
  have hI' := hI
  obtain ⟨hT, hN, hK, h14, h12, h15, hXT, hXD, hXK, hXM⟩ := hI
  rcases g_dream h12 hR.2.1 hN a1 with ⟨g0, m0⟩ | ⟨d, hd, rfl, g0, m0⟩
  · exact ⟨Sum.inl IOB, 0, up M0 10 0 1, by unfold fX3_hasOwnTag; rw [g0]; rfl, by unfold fX4_hasOwnTag; rw [← e0, bS, m0]; rfl, agR_no (by decide) (by decide) hI' hR⟩
  · skip
    rcases g_tag h14 hR.1 hT a2 with ⟨g1, m1⟩ | ⟨t, ht, rfl, g1, m1⟩
    · exact ⟨Sum.inl IOB, 0, up M0 10 0 1, by unfold fX3_hasOwnTag; rw [g0, bS, xb_i, g1]; rfl, by unfold fX4_hasOwnTag; rw [← e0, bS, m0, bS, if_neg n10, m1]; rfl, agR_no (by decide) (by decide) hI' hR⟩
    · skip
      refine ⟨Sum.inr (if bt (X 0 d) t = true then 1 else 0), if bt (X 0 d) t = true then 1 else 0, M0, ?_, ?_, ?_⟩
      · unfold fX3_hasOwnTag
        rw [g0, bS, xb_i, g1, bS, xb_i]
        rw [ld_n (by omega) (by omega), bS, isIn_n (by omega), bS, zgB, bS]
      · unfold fX4_hasOwnTag
        rw [← e0, bS, m0, bS, if_neg n10, m1, bS, if_neg n10]
        rw [ld_n (by omega) (by omega), bS, is_n (by omega), bS, zgB, bS, (hR.2.2.2.2.2.1 d hd).1]
      · exact agR_ok (rel_of hI' hR) z0
theorem op_hasTag {X M : St} (a1 a2 : Int32) (h : Rel X M) : ∃ R r M1, fX3_hasTag X a1 a2 = some R ∧ fX4_hasTag M a1 a2 = some (r, M1) ∧ AgR [IOB] X R r M1 := by
  obtain ⟨T, N, K, M0, e0, z0, hI, hR⟩ := rel_s h
  have hI' := hI
  obtain ⟨hT, hN, hK, h14, h12, h15, hXT, hXD, hXK, hXM⟩ := hI
  rcases g_dream h12 hR.2.1 hN a1 with ⟨g0, m0⟩ | ⟨d, hd, rfl, g0, m0⟩
  · exact ⟨Sum.inl IOB, 0, up M0 10 0 1, by unfold fX3_hasTag; rw [g0]; rfl, by unfold fX4_hasTag; rw [← e0, bS, m0]; rfl, agR_no (by decide) (by decide) hI' hR⟩
  · skip
    rcases g_tag h14 hR.1 hT a2 with ⟨g1, m1⟩ | ⟨t, ht, rfl, g1, m1⟩
    · exact ⟨Sum.inl IOB, 0, up M0 10 0 1, by unfold fX3_hasTag; rw [g0, bS, xb_i, g1]; rfl, by unfold fX4_hasTag; rw [← e0, bS, m0, bS, if_neg n10, m1]; rfl, agR_no (by decide) (by decide) hI' hR⟩
    · skip
      obtain ⟨Mr, q1, q7, q8, q9, qo, hRr⟩ := r_reck hI' hR
      have z0r : Mr 10 0 = 0 := by rw [qo 10 (by decide) (by decide) (by decide), z0]
      refine ⟨Sum.inr (if bt (X 1 d) t = true then 1 else 0), if bt (X 1 d) t = true then 1 else 0, Mr, ?_, ?_, ?_⟩
      · unfold fX3_hasTag
        rw [g0, bS, xb_i, g1, bS, xb_i]
        rw [ld_n (by omega) (by omega), bS, isIn_n (by omega), bS, zgB, bS]
      · unfold fX4_hasTag
        rw [← e0, bS, m0, bS, if_neg n10, m1, bS, if_neg n10]
        rw [q1, bS, ld_n (by omega) (by omega), bS, is_n (by omega), bS, zgB, bS, q7 d hd]
      · exact agR_ok (rel_of hI' hRr) z0r
theorem op_tagsOf {X M : St} (a1 : Int32) (h : Rel X M) : ∃ R r M1, fX3_tagsOf X a1 = some R ∧ fX4_tagsOf M a1 = some (r, M1) ∧ AgR [IOB] X R r M1 := by
  obtain ⟨T, N, K, M0, e0, z0, hI, hR⟩ := rel_s h
  have hI' := hI
  obtain ⟨hT, hN, hK, h14, h12, h15, hXT, hXD, hXK, hXM⟩ := hI
  rcases g_dream h12 hR.2.1 hN a1 with ⟨g0, m0⟩ | ⟨d, hd, rfl, g0, m0⟩
  · exact ⟨Sum.inl IOB, 0, up M0 10 0 1, by unfold fX3_tagsOf; rw [g0]; rfl, by unfold fX4_tagsOf; rw [← e0, bS, m0]; rfl, agR_no (by decide) (by decide) hI' hR⟩
  · skip
    obtain ⟨Mr, q1, q7, q8, q9, qo, hRr⟩ := r_reck hI' hR
    have z0r : Mr 10 0 = 0 := by rw [qo 10 (by decide) (by decide) (by decide), z0]
    refine ⟨Sum.inr (nI (cnt (X 1 d))), nI (cnt (X 1 d)), Mr, ?_, ?_, ?_⟩
    · unfold fX3_tagsOf
      rw [g0, bS, xb_i]
      rw [ld_n (by omega) (by omega), bS, bitCount_n, bS]
    · unfold fX4_tagsOf
      rw [← e0, bS, m0, bS, if_neg n10]
      rw [q1, bS, ld_n (by omega) (by omega), bS, many_n, bS, q7 d hd]
    · exact agR_ok (rel_of hI' hRr) z0r
theorem op_vividnessOf {X M : St} (a1 : Int32) (h : Rel X M) : ∃ R r M1, fX3_vividnessOf X a1 = some R ∧ fX4_vividnessOf M a1 = some (r, M1) ∧ AgR [IOB] X R r M1 := by
  obtain ⟨T, N, K, M0, e0, z0, hI, hR⟩ := rel_s h
  have hI' := hI
  obtain ⟨hT, hN, hK, h14, h12, h15, hXT, hXD, hXK, hXM⟩ := hI
  rcases g_dream h12 hR.2.1 hN a1 with ⟨g0, m0⟩ | ⟨d, hd, rfl, g0, m0⟩
  · exact ⟨Sum.inl IOB, 0, up M0 10 0 1, by unfold fX3_vividnessOf; rw [g0]; rfl, by unfold fX4_vividnessOf; rw [← e0, bS, m0]; rfl, agR_no (by decide) (by decide) hI' hR⟩
  · skip
    refine ⟨Sum.inr (X 2 d), X 2 d, M0, ?_, ?_, ?_⟩
    · unfold fX3_vividnessOf
      rw [g0, bS, xb_i]
      rw [ld_n (by omega) (by omega), bS]
    · unfold fX4_vividnessOf
      rw [← e0, bS, m0, bS, if_neg n10]
      rw [ld_n (by omega) (by omega), bS, (hR.2.2.2.2.2.1 d hd).2.1]
    · exact agR_ok (rel_of hI' hR) z0
theorem op_nightOf {X M : St} (a1 : Int32) (h : Rel X M) : ∃ R r M1, fX3_nightOf X a1 = some R ∧ fX4_nightOf M a1 = some (r, M1) ∧ AgR [IOB] X R r M1 := by
  obtain ⟨T, N, K, M0, e0, z0, hI, hR⟩ := rel_s h
  have hI' := hI
  obtain ⟨hT, hN, hK, h14, h12, h15, hXT, hXD, hXK, hXM⟩ := hI
  rcases g_dream h12 hR.2.1 hN a1 with ⟨g0, m0⟩ | ⟨d, hd, rfl, g0, m0⟩
  · exact ⟨Sum.inl IOB, 0, up M0 10 0 1, by unfold fX3_nightOf; rw [g0]; rfl, by unfold fX4_nightOf; rw [← e0, bS, m0]; rfl, agR_no (by decide) (by decide) hI' hR⟩
  · skip
    refine ⟨Sum.inr (X 3 d), X 3 d, M0, ?_, ?_, ?_⟩
    · unfold fX3_nightOf
      rw [g0, bS, xb_i]
      rw [ld_n (by omega) (by omega), bS]
    · unfold fX4_nightOf
      rw [← e0, bS, m0, bS, if_neg n10]
      rw [ld_n (by omega) (by omega), bS, (hR.2.2.2.2.2.1 d hd).2.2]
    · exact agR_ok (rel_of hI' hR) z0
theorem op_matches {X M : St} (a1 a2 : Int32) (h : Rel X M) : ∃ R r M1, fX3_matches X a1 a2 = some R ∧ fX4_matches M a1 a2 = some (r, M1) ∧ AgR [IOB] X R r M1 := by
  obtain ⟨T, N, K, M0, e0, z0, hI, hR⟩ := rel_s h
  have hI' := hI
  obtain ⟨hT, hN, hK, h14, h12, h15, hXT, hXD, hXK, hXM⟩ := hI
  rcases g_term h15 hR.2.2.1 hK a1 with ⟨g0, m0⟩ | ⟨k, hk, rfl, g0, m0⟩
  · exact ⟨Sum.inl IOB, 0, up M0 10 0 1, by unfold fX3_matches; rw [g0]; rfl, by unfold fX4_matches; rw [← e0, bS, m0]; rfl, agR_no (by decide) (by decide) hI' hR⟩
  · skip
    rcases g_dream h12 hR.2.1 hN a2 with ⟨g1, m1⟩ | ⟨d, hd, rfl, g1, m1⟩
    · exact ⟨Sum.inl IOB, 0, up M0 10 0 1, by unfold fX3_matches; rw [g0, bS, xb_i, g1]; rfl, by unfold fX4_matches; rw [← e0, bS, m0, bS, if_neg n10, m1]; rfl, agR_no (by decide) (by decide) hI' hR⟩
    · skip
      obtain ⟨Mr, q1, q7, q8, q9, qo, hRr⟩ := r_reck hI' hR
      have z0r : Mr 10 0 = 0 := by rw [qo 10 (by decide) (by decide) (by decide), z0]
      refine ⟨Sum.inr (if bt (X 9 k) d = true then 1 else 0), if bt (X 9 k) d = true then 1 else 0, Mr, ?_, ?_, ?_⟩
      · unfold fX3_matches
        rw [g0, bS, xb_i, g1, bS, xb_i]
        rw [ld_n (by omega) (by omega), bS, isIn_n (by omega), bS, zgB, bS]
      · unfold fX4_matches
        rw [← e0, bS, m0, bS, if_neg n10, m1, bS, if_neg n10]
        rw [q1, bS, ld_n (by omega) (by omega), bS, is_n (by omega), bS, zgB, bS, q9 k hk]
      · exact agR_ok (rel_of hI' hRr) z0r
theorem op_matchesOf {X M : St} (a1 : Int32) (h : Rel X M) : ∃ R r M1, fX3_matchesOf X a1 = some R ∧ fX4_matchesOf M a1 = some (r, M1) ∧ AgR [IOB] X R r M1 := by
  obtain ⟨T, N, K, M0, e0, z0, hI, hR⟩ := rel_s h
  have hI' := hI
  obtain ⟨hT, hN, hK, h14, h12, h15, hXT, hXD, hXK, hXM⟩ := hI
  rcases g_term h15 hR.2.2.1 hK a1 with ⟨g0, m0⟩ | ⟨k, hk, rfl, g0, m0⟩
  · exact ⟨Sum.inl IOB, 0, up M0 10 0 1, by unfold fX3_matchesOf; rw [g0]; rfl, by unfold fX4_matchesOf; rw [← e0, bS, m0]; rfl, agR_no (by decide) (by decide) hI' hR⟩
  · skip
    obtain ⟨Mr, q1, q7, q8, q9, qo, hRr⟩ := r_reck hI' hR
    have z0r : Mr 10 0 = 0 := by rw [qo 10 (by decide) (by decide) (by decide), z0]
    refine ⟨Sum.inr (nI (cnt (X 9 k))), nI (cnt (X 9 k)), Mr, ?_, ?_, ?_⟩
    · unfold fX3_matchesOf
      rw [g0, bS, xb_i]
      rw [ld_n (by omega) (by omega), bS, bitCount_n, bS]
    · unfold fX4_matchesOf
      rw [← e0, bS, m0, bS, if_neg n10]
      rw [q1, bS, ld_n (by omega) (by omega), bS, many_n, bS, q9 k hk]
    · exact agR_ok (rel_of hI' hRr) z0r
theorem op_matchSame {X M : St} (a1 a2 : Int32) (h : Rel X M) : ∃ R r M1, fX3_matchSame X a1 a2 = some R ∧ fX4_matchSame M a1 a2 = some (r, M1) ∧ AgR [IOB] X R r M1 := by
  obtain ⟨T, N, K, M0, e0, z0, hI, hR⟩ := rel_s h
  have hI' := hI
  obtain ⟨hT, hN, hK, h14, h12, h15, hXT, hXD, hXK, hXM⟩ := hI
  rcases g_term h15 hR.2.2.1 hK a1 with ⟨g0, m0⟩ | ⟨k, hk, rfl, g0, m0⟩
  · exact ⟨Sum.inl IOB, 0, up M0 10 0 1, by unfold fX3_matchSame; rw [g0]; rfl, by unfold fX4_matchSame; rw [← e0, bS, m0]; rfl, agR_no (by decide) (by decide) hI' hR⟩
  · skip
    rcases g_term h15 hR.2.2.1 hK a2 with ⟨g1, m1⟩ | ⟨j, hj, rfl, g1, m1⟩
    · exact ⟨Sum.inl IOB, 0, up M0 10 0 1, by unfold fX3_matchSame; rw [g0, bS, xb_i, g1]; rfl, by unfold fX4_matchSame; rw [← e0, bS, m0, bS, if_neg n10, m1]; rfl, agR_no (by decide) (by decide) hI' hR⟩
    · skip
      obtain ⟨Mr, q1, q7, q8, q9, qo, hRr⟩ := r_reck hI' hR
      have z0r : Mr 10 0 = 0 := by rw [qo 10 (by decide) (by decide) (by decide), z0]
      refine ⟨Sum.inr (if X 9 k = X 9 j then 1 else 0), if X 9 k = X 9 j then 1 else 0, Mr, ?_, ?_, ?_⟩
      · unfold fX3_matchSame
        rw [g0, bS, xb_i, g1, bS, xb_i]
        rw [ld_n (by omega) (by omega), bS, ld_n (by omega) (by omega), bS]
        split <;> rfl
      · unfold fX4_matchSame
        rw [← e0, bS, m0, bS, if_neg n10, m1, bS, if_neg n10]
        rw [q1, bS, ld_n (by omega) (by omega), bS, ld_n (by omega) (by omega), bS, q9 k hk, q9 j hj]
        split <;> rfl
      · exact agR_ok (rel_of hI' hRr) z0r
theorem op_tags {X M : St} (h : Rel X M) : ∃ r M1, fX3_tags X = some r ∧ fX4_tags M = some (r, M1) ∧ Rel X M1 := by
  obtain ⟨T, N, K, M0, e0, z0, hI, hR⟩ := rel_s h
  have hI' := hI
  obtain ⟨hT, hN, hK, h14, h12, h15, hXT, hXD, hXK, hXM⟩ := hI
  refine ⟨X 14 0, M0, rfl, ?_, rel_of hI' hR⟩
  unfold fX4_tags
  rw [← e0, bS, hR.1, h14]
theorem op_dreams {X M : St} (h : Rel X M) : ∃ r M1, fX3_dreams X = some r ∧ fX4_dreams M = some (r, M1) ∧ Rel X M1 := by
  obtain ⟨T, N, K, M0, e0, z0, hI, hR⟩ := rel_s h
  have hI' := hI
  obtain ⟨hT, hN, hK, h14, h12, h15, hXT, hXD, hXK, hXM⟩ := hI
  refine ⟨X 12 0, M0, rfl, ?_, rel_of hI' hR⟩
  unfold fX4_dreams
  rw [← e0, bS, hR.2.1, h12]
theorem op_terms {X M : St} (h : Rel X M) : ∃ r M1, fX3_terms X = some r ∧ fX4_terms M = some (r, M1) ∧ Rel X M1 := by
  obtain ⟨T, N, K, M0, e0, z0, hI, hR⟩ := rel_s h
  have hI' := hI
  obtain ⟨hT, hN, hK, h14, h12, h15, hXT, hXD, hXK, hXM⟩ := hI
  refine ⟨X 15 0, M0, rfl, ?_, rel_of hI' hR⟩
  unfold fX4_terms
  rw [← e0, bS, hR.2.2.1, h15]
theorem op_nights {X M : St} (h : Rel X M) : ∃ r M1, fX3_nights X = some r ∧ fX4_nights M = some (r, M1) ∧ Rel X M1 := by
  obtain ⟨T, N, K, M0, e0, z0, hI, hR⟩ := rel_s h
  have hI' := hI
  obtain ⟨hT, hN, hK, h14, h12, h15, hXT, hXD, hXK, hXM⟩ := hI
  refine ⟨X 13 0, M0, rfl, ?_, rel_of hI' hR⟩
  unfold fX4_nights
  rw [← e0, bS, hR.2.2.2.1]
theorem op_clearTerms {X M : St} (h : Rel X M) : ∃ r X1 M1, fX3_clearTerms X = some (r, X1) ∧ fX4_clearTerms M = some (r, M1) ∧ Rel X1 M1 := by
  obtain ⟨T, N, K, M0, e0, z0, hI, hR⟩ := rel_s h
  obtain ⟨hT, hN, hK, h14, h12, h15, hXT, hXD, hXK, hXM⟩ := hI
  obtain ⟨r11, r12, r13, r14, rt, rd, rk⟩ := hR
  refine ⟨X 15 0, up X 15 0 0, up M0 13 0 0, rfl, ?_, T, N, 0, ⟨hT, hN, Nat.zero_le _, ?_, ?_, up_ss _ _ _ _, ?_, ?_, ?_, ?_⟩, ?_, ?_, up_ss _ _ _ _, ?_, ?_, ?_, ?_⟩
  · unfold fX4_clearTerms
    rw [← e0, bS, bS, bS, r13, h15]
  · rw [up_n (by decide), h14]
  · rw [up_n (by decide), h12]
  · unfold XT
    rw [up_n (by decide), up_n (by decide)]
    exact hXT
  · unfold XD
    rw [up_n (by decide), up_n (by decide), up_n (by decide), up_n (by decide)]
    exact hXD
  · intro k hk; omega
  · intro k hk; omega
  · rw [up_n (by decide), r11]
  · rw [up_n (by decide), r12]
  · rw [up_n (by decide), up_n (by decide), r14]
  · rw [up_n (by decide), up_n (by decide)]
    exact rt
  · rw [up_n (by decide), up_n (by decide), up_n (by decide), up_n (by decide), up_n (by decide), up_n (by decide)]
    exact rd
  · intro k hk; omega
