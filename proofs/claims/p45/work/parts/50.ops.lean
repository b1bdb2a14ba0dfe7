/-! WHAT THE CLASS ANSWERS, AND WHAT ITS CHANGES DO (the class alone) -/
theorem xi_x {X X' : St} {T N K : Nat} (h : XI X T N K) (e : ∀ a, a ≠ 10 → a ≠ 11 → X' a = X a) : XI X' T N K := by
  unfold XI XT XD XK0 XM at h ⊢
  rw [e 0 (by decide) (by decide), e 1 (by decide) (by decide), e 2 (by decide) (by decide), e 4 (by decide) (by decide), e 5 (by decide) (by decide), e 6 (by decide) (by decide), e 7 (by decide) (by decide), e 8 (by decide) (by decide), e 9 (by decide) (by decide), e 12 (by decide) (by decide), e 14 (by decide) (by decide), e 15 (by decide) (by decide)]
  exact h
abbrev AB (X : St) (t : Nat) : Int32 := ab (X 4) (X 5) t
section OPS
variable {X : St} {T N K : Nat}
theorem q_tag (hI : XI X T N K) {t : Nat} (ht : t < T) : fX3_requireTag X (nI t) = some () := by
  have hT := hI.1
  unfold fX3_requireTag
  rw [if_neg (nI_pos (by omega)), hI.2.2.2.1, if_pos (nI_lt ht (by omega))]
theorem q_dream (hI : XI X T N K) {d : Nat} (hd : d < N) : fX3_requireDream X (nI d) = some () := by
  have hN := hI.2.1
  unfold fX3_requireDream
  rw [if_neg (nI_pos (by omega)), hI.2.2.2.2.1, if_pos (nI_lt hd (by omega))]
theorem q_term (hI : XI X T N K) {k : Nat} (hk : k < K) : fX3_requireTerm X (nI k) = some () := by
  have hK := hI.2.2.1
  unfold fX3_requireTerm
  rw [if_neg (nI_pos (by omega)), hI.2.2.2.2.2.1, if_pos (nI_lt hk (by omega))]
theorem o_tags (hI : XI X T N K) : fX3_tags X = some (nI T) := by unfold fX3_tags; rw [hI.2.2.2.1]
theorem o_dreams (hI : XI X T N K) : fX3_dreams X = some (nI N) := by unfold fX3_dreams; rw [hI.2.2.2.2.1]
theorem o_terms (hI : XI X T N K) : fX3_terms X = some (nI K) := by unfold fX3_terms; rw [hI.2.2.2.2.2.1]
theorem o_nights : fX3_nights X = some (X 13 0) := rfl
theorem o_hasParent (hI : XI X T N K) {t : Nat} (ht : t < T) : fX3_hasParent X (nI t) = some (if X 4 t = -1 then 0 else 1) := by
  have hT := hI.1
  unfold fX3_hasParent
  rw [q_tag hI ht, bS, ld_n (by omega) (by omega), bS]
  split <;> rfl
theorem o_parentOf (hI : XI X T N K) {t : Nat} (ht : t < T) (hn : X 4 t ≠ -1) : fX3_parentOf X (nI t) = some (X 4 t) := by
  have hT := hI.1
  unfold fX3_parentOf fX3_requireParent
  rw [q_tag hI ht, bS, ld_n (by omega) (by omega), bS, if_neg hn, bS, bS]
theorem o_tagsAbove (hI : XI X T N K) {t : Nat} (ht : t < T) : fX3_tagsAbove X (nI t) = some (nI (cnt (AB X t))) := by
  unfold fX3_tagsAbove
  rw [q_tag hI ht, bS, countAbove_n hI.2.2.2.2.2.2.1 hI.1 ht, bS]
theorem o_tagsBelow (hI : XI X T N K) {u : Nat} (hu : u < T) : fX3_tagsBelow X (nI u) = some (nI (fb_ct (fun i => bt (AB X i) u) T)) := by
  have hT := hI.1
  unfold fX3_tagsBelow
  rw [q_tag hI hu, bS, countBelow_n hI.2.2.2.1 hI.2.2.2.2.2.2.1 hI.1 (by omega), bS]
theorem o_isBelow (hI : XI X T N K) {t u : Nat} (ht : t < T) (hu : u < T) : fX3_isBelow X (nI t) (nI u) = some (if bt (AB X t) u = true then 1 else 0) := by
  have hT := hI.1
  unfold fX3_isBelow
  rw [q_tag hI ht, bS, q_tag hI hu, bS, standsBelow_n hI.2.2.2.2.2.2.1 hI.1 ht (by omega), bS, zgB, bS]
theorem o_nearest (hI : XI X T N K) {t u : Nat} (ht : t < T) (hu : u < T) : fX3_nearestAbove X (nI t) (nI u) = some (oI (low (X 5 t &&& X 5 u) (fun i => cnt (AB X i)) T)) := by
  have hT := hI.1
  unfold fX3_nearestAbove
  rw [q_tag hI ht, bS, q_tag hI hu, bS, ld_n (by omega) (by omega), bS, ld_n (by omega) (by omega), bS, lowestOf_n hI.2.2.2.1 hI.2.2.2.2.2.2.1 hI.1, bS]
theorem o_dreamsWith (hI : XI X T N K) {t : Nat} (ht : t < T) : fX3_dreamsWith X (nI t) = some (nI (cnt (dhf (X 1) t N))) := by
  have hT := hI.1
  unfold fX3_dreamsWith
  rw [q_tag hI ht, bS, dreamsHaving_n hI.2.2.2.2.1 hI.2.1 (by omega), bS, bitCount_n, bS]
theorem o_hasOwnTag (hI : XI X T N K) {d t : Nat} (hd : d < N) (ht : t < T) : fX3_hasOwnTag X (nI d) (nI t) = some (if bt (X 0 d) t = true then 1 else 0) := by
  have hT := hI.1
  have hN := hI.2.1
  unfold fX3_hasOwnTag
  rw [q_dream hI hd, bS, q_tag hI ht, bS, ld_n (by omega) (by omega), bS, isIn_n (by omega), bS, zgB, bS]
theorem o_hasTag (hI : XI X T N K) {d t : Nat} (hd : d < N) (ht : t < T) : fX3_hasTag X (nI d) (nI t) = some (if bt (X 1 d) t = true then 1 else 0) := by
  have hT := hI.1
  have hN := hI.2.1
  unfold fX3_hasTag
  rw [q_dream hI hd, bS, q_tag hI ht, bS, ld_n (by omega) (by omega), bS, isIn_n (by omega), bS, zgB, bS]
theorem o_tagsOf (hI : XI X T N K) {d : Nat} (hd : d < N) : fX3_tagsOf X (nI d) = some (nI (cnt (X 1 d))) := by
  have hN := hI.2.1
  unfold fX3_tagsOf
  rw [q_dream hI hd, bS, ld_n (by omega) (by omega), bS, bitCount_n, bS]
theorem o_vivid (hI : XI X T N K) {d : Nat} (hd : d < N) : fX3_vividnessOf X (nI d) = some (X 2 d) := by
  have hN := hI.2.1
  unfold fX3_vividnessOf
  rw [q_dream hI hd, bS, ld_n (by omega) (by omega), bS]
theorem o_night (hI : XI X T N K) {d : Nat} (hd : d < N) : fX3_nightOf X (nI d) = some (X 3 d) := by
  have hN := hI.2.1
  unfold fX3_nightOf
  rw [q_dream hI hd, bS, ld_n (by omega) (by omega), bS]
theorem o_matches (hI : XI X T N K) {k d : Nat} (hk : k < K) (hd : d < N) : fX3_matches X (nI k) (nI d) = some (if bt (X 9 k) d = true then 1 else 0) := by
  have hN := hI.2.1
  have hK := hI.2.2.1
  unfold fX3_matches
  rw [q_term hI hk, bS, q_dream hI hd, bS, ld_n (by omega) (by omega), bS, isIn_n (by omega), bS, zgB, bS]
theorem o_matchesOf (hI : XI X T N K) {k : Nat} (hk : k < K) : fX3_matchesOf X (nI k) = some (nI (cnt (X 9 k))) := by
  have hK := hI.2.2.1
  unfold fX3_matchesOf
  rw [q_term hI hk, bS, ld_n (by omega) (by omega), bS, bitCount_n, bS]
theorem o_common (hI : XI X T N K) {k : Nat} (hk : k < K) : fX3_commonTags X (nI k) = some (nI (cnt (shr X (X 9 k) N))) := by
  have hK := hI.2.2.1
  unfold fX3_commonTags
  rw [q_term hI hk, bS, ld_n (by omega) (by omega), bS, tagsShared_n hI.2.2.2.2.1 hI.2.1, bS, bitCount_n, bS]
theorem o_same (hI : XI X T N K) {k : Nat} (hk : k < K) : fX3_matchSame X (nI k) (nI k) = some 1 := by
  have hK := hI.2.2.1
  unfold fX3_matchSame
  rw [q_term hI hk, bS, bS, ld_n (by omega) (by omega), bS, bS, if_pos rfl]
theorem o_cover (hI : XI X T N K) {k : Nat} (hk : k < K) : ∃ s c X', fX3_coverSize X (nI k) = some (nI (cnt c), X') ∧ XI X' T N K ∧ (∀ a, a ≠ 10 → a ≠ 11 → X' a = X a) ∧ s ≤ 16 ∧ cx (fun t => dhf (X 1) t N) 16 s (X 9 k) = some c ∧ (∀ i, i < s → cx (fun t => dhf (X 1) t N) 16 i (X 9 k) = none) ∧ ∀ i, bt c i = true → i < T := by
  obtain ⟨s, c, hs, hc, hl⟩ := cov_ex hI hk
  obtain ⟨X', h1, h2⟩ := covX hI hk hs hc hl
  refine ⟨s, c, X', ?_, xi_x hI h2, h2, hs, hc, hl, fun i hi => cov_bits hI hc i hi⟩
  unfold fX3_coverSize
  rw [q_term hI hk, bS, h1, bS, pr_i, bitCount_n, bS]
theorem o_faded (hI : XI X T N K) : fX3_fadedDreams X = some (nI (fdc (X 0) (X 2) N 0 N)) := by
  unfold fX3_fadedDreams
  rw [countFaded_n hI.2.2.2.2.1 hI.2.1, bS]
/-- the mean: nothing, or the sum through the number -/
theorem o_mean0 (hI : XI X T 0 K) : fX3_meanVividness X = some 0 := by
  unfold fX3_meanVividness
  rw [hI.2.2.2.2.1]
  rfl
theorem o_mean (hI : XI X T N K) (hz : N ≠ 0) : ∃ r, fX3_meanVividness X = some r ∧ dv (FP.i2d (nI (sm (vv X) N))) (FP.i2d (nI N)) = some r ∧ FP.dcmp r r = some .eq := by
  obtain ⟨hT, hN, hK, h14, h12, h15, hXT, hXD, hXK, hXM⟩ := hI
  have hs : sm (vv X) N < 217 := by
    have := sm_le N (fun i hi => (vv_n hXD hi).2)
    omega
  have hk : okd (sm (vv X) N) N = true := by
    rcases dv_all N (by omega) with q | q
    · exact absurd q hz
    · exact q _ hs
  unfold okd at hk
  cases hd : dv (FP.i2d (nI (sm (vv X) N))) (FP.i2d (nI N)) with
  | none =>
    rw [hd] at hk
    cases hk
  | some r =>
    rw [hd] at hk
    refine ⟨r, ?_, rfl, of_decide_eq_true hk⟩
    unfold fX3_meanVividness
    rw [h12, if_neg (nI_ne0 (by omega) (by omega))]
    refine loop100 (f := fX3_meanVividness_13 X) (st := fun i => nI (sm (vv X) i)) (T := N) (by omega) ?_ ?_
    · intro n
      rw [fX3_meanVividness_13, h12, if_pos gT, hd, bS]
    · intro n i hi
      rw [fX3_meanVividness_13, h12, if_neg (gL hi (by omega)), ld_n (by omega) (by omega), bS, bS, bS, nI_1, (vv_n hXD hi).1, nI_add]
      rfl
/-! changes -/
theorem u_addTag (hI : XI X T N K) (hlt : T < 16) : ∃ X', fX3_addTag X = some (nI T, X') ∧ XI X' (T + 1) N K ∧ X' 4 = upd (X 4) T (-1) ∧ ∀ a, a ≠ 4 → a ≠ 5 → a ≠ 14 → X' a = X a := by
  obtain ⟨hT, hN, hK, h14, h12, h15, hXT, hXD, hXK, hXM⟩ := hI
  have hg := tt_grow hXT hlt
  obtain ⟨X2, hX2⟩ : ∃ z, z = sR (sR (up X 14 0 (nI T + 1)) 4 (upd (X 4) T (-1))) 5 (fil (upd (X 5) T (sb T)) (X 5) (T + 1)) := ⟨_, rfl⟩
  have x4 : X2 4 = upd (X 4) T (-1) := by rw [hX2, sR_n (by decide), sR_s]
  have x5 : X2 5 = fil (upd (X 5) T (sb T)) (X 5) (T + 1) := by rw [hX2, sR_s]
  have x14 : X2 14 0 = nI (T + 1) := by rw [hX2, sR_n (by decide), sR_n (by decide), up_ss, nI_1]
  have xo : ∀ a, a ≠ 4 → a ≠ 5 → a ≠ 14 → X2 a = X a := fun a h4 h5 h14 => by rw [hX2, sR_n h5, sR_n h4, up_n h14]
  have hq : fX1_hang (up X 14 0 (nI T + 1)) (nI T) (-1) = some X2 := by
    rw [hang_n (T := T + 1) (L := upd (X 5) T (sb T)) (by rw [up_ss, nI_1]) (by omega) hlt (by rw [up_n (by decide)]; exact hg), up_n (a := 4) (by decide), up_n (a := 5) (by decide), hX2]
  refine ⟨X2, ?_, ⟨by omega, hN, hK, x14, ?_, ?_, ?_, ⟨?_, ?_, ?_, ?_⟩, ?_, ?_⟩, x4, xo⟩
  · unfold fX3_addTag fX1_grow
    rw [h14, if_pos (show nI T < 16 from nI_lt (b := 16) hlt (by omega)), bS, bS, hq, bS, bS]
    rfl
  · rw [xo 12 (by decide) (by decide) (by decide), h12]
  · rw [xo 15 (by decide) (by decide) (by decide), h15]
  · unfold XT
    rw [x4, x5]
    exact tt_congr hg (by omega) (fun _ _ => rfl) (fun i hi => fil_in hi)
  · rw [xo 0 (by decide) (by decide) (by decide)]; exact hXD.1
  · rw [xo 0 (by decide) (by decide) (by decide)]
    intro d hd i hi
    have := hXD.2.1 d hd i hi
    omega
  · rw [xo 2 (by decide) (by decide) (by decide)]; exact hXD.2.2.1
  · intro d hd
    rw [xo 1 (by decide) (by decide) (by decide), xo 0 (by decide) (by decide) (by decide), x5, hXD.2.2.2 d hd, lnsf_s (by
      cases hb : bt (X 0 d) T
      · rfl
      · have := hXD.2.1 d hd T hb
        omega)]
    exact lnsf_congr (fun i hi => by rw [fil_in (by omega), upd_n (by omega)])
  · intro k hk
    rw [xo 6 (by decide) (by decide) (by decide), xo 7 (by decide) (by decide) (by decide), xo 8 (by decide) (by decide) (by decide)]
    rcases hXK k hk with ⟨q1, i, hi, q2⟩ | q | q
    · exact Or.inl ⟨q1, i, by omega, q2⟩
    · exact Or.inr (Or.inl q)
    · exact Or.inr (Or.inr q)
  · unfold XM
    rw [xo 6 (by decide) (by decide) (by decide), xo 7 (by decide) (by decide) (by decide), xo 8 (by decide) (by decide) (by decide), xo 9 (by decide) (by decide) (by decide), xo 1 (by decide) (by decide) (by decide)]
    exact hXM
theorem u_move {t : Nat} {pa : Int32} {L : Nat → Int32} (hI : XI X T N K) (ht : t < T) (h : TT (upd (X 4) t pa) L T) :
    ∃ X', fX3_moveTag X (nI t) pa = some X' ∧ XI X' T N K ∧ X' 4 = upd (X 4) t pa ∧ ∀ a, a ≠ 4 → a ≠ 5 → a ≠ 1 → a ≠ 9 → X' a = X a := by
  obtain ⟨hT, hN, hK, h14, h12, h15, hXT, hXD, hXK, hXM⟩ := hI
  obtain ⟨X', q1, x4, x5, x1, xm, xo⟩ := moveTag_n (pa := pa) h14 hT h12 hN h15 hK hXK (show t < 16 by omega) h
  have o0 : X' 0 = X 0 := xo 0 (by decide) (by decide) (by decide) (by decide)
  have o2 : X' 2 = X 2 := xo 2 (by decide) (by decide) (by decide) (by decide)
  have o6 : X' 6 = X 6 := xo 6 (by decide) (by decide) (by decide) (by decide)
  have o7 : X' 7 = X 7 := xo 7 (by decide) (by decide) (by decide) (by decide)
  have o8 : X' 8 = X 8 := xo 8 (by decide) (by decide) (by decide) (by decide)
  refine ⟨X', q1, ⟨hT, hN, hK, ?_, ?_, ?_, ?_, ⟨?_, ?_, ?_, ?_⟩, ?_, xm⟩, x4, xo⟩
  · rw [xo 14 (by decide) (by decide) (by decide) (by decide), h14]
  · rw [xo 12 (by decide) (by decide) (by decide) (by decide), h12]
  · rw [xo 15 (by decide) (by decide) (by decide) (by decide), h15]
  · unfold XT
    rw [x4]
    exact tt_congr h hT (fun _ _ => rfl) x5
  · rw [o0]; exact hXD.1
  · rw [o0]; exact hXD.2.1
  · rw [o2]; exact hXD.2.2.1
  · intro d hd
    rw [x1 d hd, o0]
    exact lnsf_congr (fun i hi => (x5 i hi).symm)
  · unfold XK0
    rw [o6, o7, o8]
    exact hXK
theorem u_put {t p : Nat} (hI : XI X T N K) (ht : t < T) (hp : p < T) (e : t ≠ p) (hb : bt (AB X p) t = false) : ∃ X', fX3_putUnder X (nI t) (nI p) = some (nI (cnt (AB X' t)), X') ∧ XI X' T N K ∧ X' 4 = upd (X 4) t (nI p) ∧ ∀ a, a ≠ 4 → a ≠ 5 → a ≠ 1 → a ≠ 9 → X' a = X a := by
  have hT := hI.1
  have hXT := hI.2.2.2.2.2.2.1
  have hb5 : bt (X 5 p) t = false := by
    rw [tt_b hXT hT hp, hb, decide_eq_false e]
    rfl
  obtain ⟨X2, q1, hI2, x4, xo⟩ := u_move hI ht (tt_put hI ht hp hb5)
  refine ⟨X2, ?_, hI2, x4, xo⟩
  unfold fX3_putUnder fX3_requirePlaceUnder
  rw [q_tag hI ht, bS, q_tag hI hp, bS, if_neg (fun q => e ((nI_eq (by omega) (by omega)).mp q)), canHang_n hXT hT ht hp, if_neg e, hb, if_neg (by decide), bS]
  show Option.bind (some ()) _ = _
  rw [bS, q1, bS, countAbove_n hI2.2.2.2.2.2.2.1 hT ht, bS]
theorem u_free {t : Nat} (hI : XI X T N K) (ht : t < T) (hn : X 4 t ≠ -1) : ∃ X', fX3_freeTag X (nI t) = some (X 4 t, X') ∧ XI X' T N K ∧ X' 4 = upd (X 4) t (-1) ∧ ∀ a, a ≠ 4 → a ≠ 5 → a ≠ 1 → a ≠ 9 → X' a = X a := by
  have hT := hI.1
  obtain ⟨X2, q1, hI2, x4, xo⟩ := u_move hI ht (tt_free hI ht)
  refine ⟨X2, ?_, hI2, x4, xo⟩
  unfold fX3_freeTag fX3_requireParent
  rw [q_tag hI ht, bS, ld_n (by omega) (by omega), bS, if_neg hn, bS, bS, q1, bS]
theorem u_own {d : Nat} {o : Int32} (hI : XI X T N K) (hd : d < N) (h0 : o ≠ 0) (ho : ∀ i, bt o i = true → i < T) : ∃ X', fX3_setOwnTags X (nI d) o = some X' ∧ XI X' T N K ∧ X' 0 = upd (X 0) d o ∧ ∀ a, a ≠ 0 → a ≠ 1 → a ≠ 9 → X' a = X a := by
  obtain ⟨hT, hN, hK, h14, h12, h15, hXT, hXD, hXK, hXM⟩ := hI
  obtain ⟨X', q1, x0, x1, xm, xo⟩ := setOwn_n (o := o) (d := d) h14 hT h12 hN h15 hK hXK (by omega)
  refine ⟨X', q1, ⟨hT, hN, hK, ?_, ?_, ?_, ?_, ⟨?_, ?_, ?_, ?_⟩, ?_, xm⟩, x0, xo⟩
  · rw [xo 14 (by decide) (by decide) (by decide), h14]
  · rw [xo 12 (by decide) (by decide) (by decide), h12]
  · rw [xo 15 (by decide) (by decide) (by decide), h15]
  · unfold XT
    rw [xo 4 (by decide) (by decide) (by decide), xo 5 (by decide) (by decide) (by decide)]
    exact hXT
  · intro j hj
    rw [x0]
    by_cases e : j = d
    · subst e
      rw [upd_s]
      exact h0
    · rw [upd_n e]
      exact hXD.1 j hj
  · intro j hj
    rw [x0]
    by_cases e : j = d
    · subst e
      rw [upd_s]
      exact ho
    · rw [upd_n e]
      exact hXD.2.1 j hj
  · intro j hj
    rw [xo 2 (by decide) (by decide) (by decide)]
    exact hXD.2.2.1 j hj
  · intro j hj
    rw [x0, x1, xo 5 (by decide) (by decide) (by decide)]
    by_cases e : j = d
    · subst e
      rw [upd_s, upd_s]
    · rw [upd_n e, upd_n e]
      exact hXD.2.2.2 j hj
  · unfold XK0
    rw [xo 6 (by decide) (by decide) (by decide), xo 7 (by decide) (by decide) (by decide), xo 8 (by decide) (by decide) (by decide)]
    exact hXK
theorem u_tag {d t : Nat} (hI : XI X T N K) (hd : d < N) (ht : t < T) (hb : bt (X 0 d) t = false) : ∃ X', fX3_tagDream X (nI d) (nI t) = some (nI (cnt (X 0 d ||| sb t)), X') ∧ XI X' T N K ∧ X' 0 = upd (X 0) d (X 0 d ||| sb t) ∧ ∀ a, a ≠ 0 → a ≠ 1 → a ≠ 9 → X' a = X a := by
  have hT := hI.1
  have hN := hI.2.1
  have hXD := hI.2.2.2.2.2.2.2.1
  obtain ⟨X2, q1, hI2, x0, xo⟩ := u_own (d := d) (o := X 0 d ||| sb t) hI hd (bt_ne0.mpr ⟨t, by rw [b_or, bt_sb (by omega), decide_eq_true rfl, Bool.or_true]⟩) (fun i hi => by
    rw [b_or, bt_sb (by omega)] at hi
    rcases (Bool.or_eq_true _ _).mp hi with hi | hi
    · exact hXD.2.1 d hd i hi
    · have : i = t := of_decide_eq_true hi
      omega)
  refine ⟨X2, ?_, hI2, x0, xo⟩
  unfold fX3_tagDream
  rw [q_dream hI hd, bS, q_tag hI ht, bS, ld_n (by omega) (by omega), bS, isIn_n (by omega), bS, hb, isF, if_pos rfl, bS]
  show Option.bind (fX3_setOwnTags X (nI d) (X 0 d ||| sb t)) _ = _
  rw [q1, bS, ld_n (by omega) (by omega), bS, bitCount_n, bS, x0, upd_s]
theorem u_untag {d t : Nat} (hI : XI X T N K) (hd : d < N) (ht : t < T) (hb : bt (X 0 d) t = true) (e : X 0 d ≠ sb t) : ∃ X', fX3_untagDream X (nI d) (nI t) = some (nI (cnt (X 0 d &&& (sb t ^^^ (-1)))), X') ∧ XI X' T N K ∧ X' 0 = upd (X 0) d (X 0 d &&& (sb t ^^^ (-1))) ∧ ∀ a, a ≠ 0 → a ≠ 1 → a ≠ 9 → X' a = X a := by
  have hT := hI.1
  have hN := hI.2.1
  have hXD := hI.2.2.2.2.2.2.2.1
  have hne : X 0 d &&& (sb t ^^^ (-1)) ≠ 0 := by
    intro q
    refine e (b_ext fun i hi => ?_)
    have := congrArg (fun x => bt x i) q
    simp only [b_0] at this
    rw [b_and, bt_not _ hi, bt_sb (by omega)] at this
    rw [bt_sb (by omega)]
    by_cases e2 : i = t
    · subst e2
      rw [hb, decide_eq_true rfl]
    · rw [decide_eq_false e2] at this ⊢
      simpa using this
  obtain ⟨X2, q1, hI2, x0, xo⟩ := u_own (d := d) (o := X 0 d &&& (sb t ^^^ (-1))) hI hd hne (fun i hi => by
    rw [b_and] at hi
    exact hXD.2.1 d hd i ((Bool.and_eq_true _ _).mp hi).1)
  refine ⟨X2, ?_, hI2, x0, xo⟩
  unfold fX3_untagDream
  rw [q_dream hI hd, bS, q_tag hI ht, bS, ld_n (by omega) (by omega), bS, isIn_n (by omega), bS, hb, if_pos rfl, if_neg (by decide), bS]
  refine (if_neg e).trans ?_
  show Option.bind (some (X 0 d)) (fun v_6 => Option.bind (fX3_setOwnTags X (nI d) (v_6 &&& (sb t ^^^ (-1)))) _) = _
  rw [bS, q1, bS, ld_n (by omega) (by omega), bS, bitCount_n, bS, x0, upd_s]
theorem u_addDream {t v : Nat} (hI : XI X T N K) (hlt : N < 24) (ht : t < T) (h1 : 1 ≤ v) (hv : v ≤ 9) : ∃ X', fX3_addDream X (nI t) (nI v) = some (nI N, X') ∧ XI X' T (N + 1) K ∧ X' 0 = upd (X 0) N (sb t) ∧ X' 2 = upd (X 2) N (nI v) ∧ X' 3 = upd (X 3) N (X 13 0) ∧ ∀ a, a ≠ 0 → a ≠ 1 → a ≠ 9 → a ≠ 2 → a ≠ 3 → a ≠ 12 → X' a = X a := by
  have hI' := hI
  obtain ⟨hT, hN, hK, h14, h12, h15, hXT, hXD, hXK, hXM⟩ := hI
  obtain ⟨S, hS⟩ : ∃ z, z = up (up (up X 12 0 (nI N + 1)) 2 N (nI v)) 3 N (X 13 0) := ⟨_, rfl⟩
  have s2 : S 2 = upd (X 2) N (nI v) := by rw [hS, up_n (by decide), up_s, up_n (by decide)]
  have s3 : S 3 = upd (X 3) N (X 13 0) := by rw [hS, up_s, up_n (by decide), up_n (by decide)]
  have s12 : S 12 0 = nI (N + 1) := by rw [hS, up_n (by decide), up_n (by decide), up_ss, nI_1]
  have so : ∀ a, a ≠ 2 → a ≠ 3 → a ≠ 12 → S a = X a := fun a h2 h3 h12 => by rw [hS, up_n h3, up_n h2, up_n h12]
  have hk0 : XK0 S T K := by
    unfold XK0
    rw [so 6 (by decide) (by decide) (by decide), so 7 (by decide) (by decide) (by decide), so 8 (by decide) (by decide) (by decide)]
    exact hXK
  obtain ⟨X2, q1, x0, x1, xm, xo⟩ := setOwn_n (S := S) (T := T) (N := N + 1) (K := K) (d := N) (o := sb t) (by rw [so 14 (by decide) (by decide) (by decide), h14]) hT s12 (by omega) (by rw [so 15 (by decide) (by decide) (by decide), h15]) hK hk0 hlt
  rw [so 0 (by decide) (by decide) (by decide)] at x0
  rw [so 1 (by decide) (by decide) (by decide), so 5 (by decide) (by decide) (by decide)] at x1
  have x2 : X2 2 = upd (X 2) N (nI v) := by rw [xo 2 (by decide) (by decide) (by decide), s2]
  have x3 : X2 3 = upd (X 3) N (X 13 0) := by rw [xo 3 (by decide) (by decide) (by decide), s3]
  have xx : ∀ a, a ≠ 0 → a ≠ 1 → a ≠ 9 → a ≠ 2 → a ≠ 3 → a ≠ 12 → X2 a = X a := fun a h0 h1 h9 h2 h3 h12 => by rw [xo a h0 h1 h9, so a h2 h3 h12]
  refine ⟨X2, ?_, ⟨hT, by omega, hK, ?_, ?_, ?_, ?_, ⟨?_, ?_, ?_, ?_⟩, ?_, xm⟩, x0, x2, x3, xx⟩
  · unfold fX3_addDream
    rw [q_tag hI' ht, bS]
    refine (if_neg (show ¬ nI v < 1 from fun q => by
      rw [Int32.lt_iff_toInt_lt, nI_toInt (by omega), show (1 : Int32).toInt = 1 from rfl] at q
      omega)).trans ((if_pos (show nI v ≤ 9 from nI_le (b := 9) (by omega) (by omega))).trans ?_)
    rw [h12, if_pos (show nI N < 24 from nI_lt (b := 24) hlt (by omega)), bS, bS, sto_n hlt (by omega), bS, sto_n hlt (by omega), bS, up_n (a := 13) (k := 2) (by decide), up_n (a := 13) (k := 12) (by decide), ← hS]
    show Option.bind (fX3_setOwnTags S (nI N) (sb t)) _ = _
    rw [q1, bS]
  · rw [xx 14 (by decide) (by decide) (by decide) (by decide) (by decide) (by decide), h14]
  · rw [xo 12 (by decide) (by decide) (by decide), s12]
  · rw [xx 15 (by decide) (by decide) (by decide) (by decide) (by decide) (by decide), h15]
  · unfold XT
    rw [xx 4 (by decide) (by decide) (by decide) (by decide) (by decide) (by decide), xx 5 (by decide) (by decide) (by decide) (by decide) (by decide) (by decide)]
    exact hXT
  · intro j hj
    rw [x0]
    by_cases e2 : j = N
    · rw [e2, upd_s]
      exact sb_ne0 (by omega)
    · rw [upd_n e2]
      exact hXD.1 j (by omega)
  · intro j hj i hi
    rw [x0] at hi
    by_cases e2 : j = N
    · rw [e2, upd_s, bt_sb (by omega)] at hi
      have : i = t := of_decide_eq_true hi
      omega
    · rw [upd_n e2] at hi
      exact hXD.2.1 j (by omega) i hi
  · intro j hj
    rw [x2]
    by_cases e2 : j = N
    · rw [e2, upd_s]
      exact ⟨v, hv, rfl⟩
    · rw [upd_n e2]
      exact hXD.2.2.1 j (by omega)
  · intro j hj
    rw [x0, x1, xx 5 (by decide) (by decide) (by decide) (by decide) (by decide) (by decide)]
    by_cases e2 : j = N
    · rw [e2, upd_s, upd_s]
    · rw [upd_n e2, upd_n e2]
      exact hXD.2.2.2 j (by omega)
  · unfold XK0
    rw [xx 6 (by decide) (by decide) (by decide) (by decide) (by decide) (by decide), xx 7 (by decide) (by decide) (by decide) (by decide) (by decide) (by decide), xx 8 (by decide) (by decide) (by decide) (by decide) (by decide) (by decide)]
    exact hXK
theorem u_recall {d v : Nat} (hI : XI X T N K) (hd : d < N) (hv : v ≤ 9) : fX3_recall X (nI d) (nI v) = some (X 2 d, up X 2 d (nI v)) ∧ XI (up X 2 d (nI v)) T N K := by
  have hN := hI.2.1
  refine ⟨?_, ?_⟩
  · unfold fX3_recall
    rw [q_dream hI hd, bS]
    refine (if_neg (nI_pos (by omega))).trans ((if_pos (show nI v ≤ 9 from nI_le (b := 9) (by omega) (by omega))).trans ?_)
    rw [ld_n (by omega) (by omega), bS, sto_n (by omega) (by omega), bS]
  · refine xi_2 hI (fun a h2 _ => up_n h2) (fun j hj => ?_)
    by_cases e : j = d
    · subst e
      exact ⟨v, hv, up_ss _ _ _ _⟩
    · rw [up_sn e]
      exact hI.2.2.2.2.2.2.2.1.2.2.1 j hj
theorem u_pass {n : Nat} (hI : XI X T N K) (h1 : 1 ≤ n) (hn : n ≤ 30) : ∃ X', fX3_passNights X (nI n) = some (nI (fdc (X' 0) (X' 2) N 0 N), X') ∧ XI X' T N K ∧ (∀ d, d < N → X' 2 d = va (X 0) (X 2) N d (nI n)) ∧ X' 13 0 = X 13 0 + nI n ∧ ∀ a, a ≠ 2 → a ≠ 13 → X' a = X a := by
  have hI' := hI
  obtain ⟨hT, hN, hK, h14, h12, h15, hXT, hXD, hXK, hXM⟩ := hI
  obtain ⟨X2, hX2⟩ : ∃ z, z = up (sR X 2 (fil (fun d => va (X 0) (X 2) N d (nI n)) (X 2) N)) 13 0 (X 13 0 + nI n) := ⟨_, rfl⟩
  have x2 : X2 2 = fil (fun d => va (X 0) (X 2) N d (nI n)) (X 2) N := by rw [hX2, up_n (by decide), sR_s]
  have xo : ∀ a, a ≠ 2 → a ≠ 13 → X2 a = X a := fun a h2 h3 => by rw [hX2, up_n h3, sR_n h2]
  have hI2 : XI X2 T N K := by
    refine xi_2 hI' xo (fun d hd => ?_)
    rw [x2, fil_in hd]
    exact va_n (hXD.2.2.1 d hd) hn
  refine ⟨X2, ?_, hI2, fun d hd => by rw [x2, fil_in hd], by rw [hX2, up_ss], xo⟩
  unfold fX3_passNights fX3_requireNights
  rw [if_neg (show ¬ nI n < 1 from fun q => by
    rw [Int32.lt_iff_toInt_lt, nI_toInt (by omega), show (1 : Int32).toInt = 1 from rfl] at q
    omega), if_pos (show nI n ≤ 30 from nI_le (b := 30) (by omega) (by omega)), bS]
  have key := loop100 (f := fX3_passNights_7 (nI n)) (st := fun i => sR X 2 (fil (fun d => va (X 0) (X 2) N d (nI n)) (X 2) i)) (T := N) (r := some (nI (fdc (X2 0) (X2 2) N 0 N), X2)) (by omega) ?_ ?_
  · rw [fil_0, sR_id] at key
    exact key
  · intro m
    rw [fX3_passNights_7, sR_n (a := 12) (by decide), h12, if_pos gT, bS, sR_n (a := 13) (by decide), ← hX2, countFaded_n hI2.2.2.2.2.1 hN, bS]
  · intro m i hi
    rw [fX3_passNights_7, sR_n (a := 12) (by decide), h12, if_neg (gL hi (by omega)), vivAfter_n (by rw [sR_n (a := 12) (by decide), h12]) hN hi, bS, sto_n (by omega) (by omega), bS, bS, nI_1, up_sR, sR_n (a := 0) (by decide), sR_s]
    have e : va (X 0) (fil (fun d => va (X 0) (X 2) N d (nI n)) (X 2) i) N i (nI n) = va (X 0) (X 2) N i (nI n) := by
      unfold va
      rw [fil_out (Nat.lt_irrefl i)]
    rw [e, fil_s (fun d => va (X 0) (X 2) N d (nI n))]
theorem u_add {kd a b : Int32} (hI : XI X T N K) (hK : K < 20) (hs : tsh kd a b T K) :
    ∃ X', fX3_addTerm X kd a b = some (nI K, X') ∧ XI X' T N (K + 1) ∧ X' 6 = upd (X 6) K kd ∧ X' 7 = upd (X 7) K a ∧ X' 8 = upd (X 8) K b ∧ ∀ a, a ≠ 6 → a ≠ 7 → a ≠ 8 → a ≠ 15 → a ≠ 9 → X' a = X a := by
  obtain ⟨hT, hN, hK0, h14, h12, h15, hXT, hXD, hXK, hXM⟩ := hI
  obtain ⟨S, hS⟩ : ∃ z, z = up (up (up (up X 15 0 (nI K + 1)) 6 K kd) 7 K a) 8 K b := ⟨_, rfl⟩
  have s6 : S 6 = upd (X 6) K kd := by rw [hS, up_n (by decide), up_n (by decide), up_s, up_n (by decide)]
  have s7 : S 7 = upd (X 7) K a := by rw [hS, up_n (by decide), up_s, up_n (by decide), up_n (by decide)]
  have s8 : S 8 = upd (X 8) K b := by rw [hS, up_s, up_n (by decide), up_n (by decide), up_n (by decide)]
  have s15 : S 15 0 = nI (K + 1) := by rw [hS, up_n (by decide), up_n (by decide), up_n (by decide), up_ss, nI_1]
  have so : ∀ a, a ≠ 6 → a ≠ 7 → a ≠ 8 → a ≠ 15 → S a = X a := fun a h6 h7 h8 h15 => by rw [hS, up_n h8, up_n h7, up_n h6, up_n h15]
  have hk0 : XK0 S T (K + 1) := by
    intro k hk
    rw [s6, s7, s8]
    by_cases e : k = K
    · subst e
      rw [upd_s, upd_s, upd_s]
      exact hs
    · rw [upd_n e, upd_n e, upd_n e]
      exact hXK k (by omega)
  obtain ⟨m, hm1, hm2⟩ := rematch_n (S := S) (by rw [so 12 (by decide) (by decide) (by decide) (by decide), h12]) hN s15 (show K + 1 ≤ 20 by omega) hT hk0
  refine ⟨sR S 9 m, ?_, ⟨hT, hN, by omega, ?_, ?_, ?_, ?_, ?_, ?_, hm2⟩, ?_, ?_, ?_, fun a h6 h7 h8 h15 h9 => by rw [sR_n h9, so a h6 h7 h8 h15]⟩
  · unfold fX3_addTerm fX2_add
    rw [bS, bS, h15, sto_n hK (by omega), bS, sto_n hK (by omega), bS, sto_n hK (by omega), bS, bS]
    show Option.bind (fX3_rematchTerms _) _ = _
    rw [← hS, hm1, bS]
  · rw [sR_n (by decide), so 14 (by decide) (by decide) (by decide) (by decide), h14]
  · rw [sR_n (by decide), so 12 (by decide) (by decide) (by decide) (by decide), h12]
  · rw [sR_n (by decide), s15]
  · unfold XT
    rw [sR_n (by decide), sR_n (by decide), so 4 (by decide) (by decide) (by decide) (by decide), so 5 (by decide) (by decide) (by decide) (by decide)]
    exact hXT
  · unfold XD
    rw [sR_n (by decide), sR_n (by decide), sR_n (by decide), sR_n (by decide), so 0 (by decide) (by decide) (by decide) (by decide), so 1 (by decide) (by decide) (by decide) (by decide), so 2 (by decide) (by decide) (by decide) (by decide), so 5 (by decide) (by decide) (by decide) (by decide)]
    exact hXD
  · unfold XK0
    rw [sR_n (by decide), sR_n (by decide), sR_n (by decide)]
    exact hk0
  · rw [sR_n (by decide), s6]
  · rw [sR_n (by decide), s7]
  · rw [sR_n (by decide), s8]
theorem q_room (hI : XI X T N K) (hK : K < 20) : fX3_requireRoomForTerm X = some () := by
  unfold fX3_requireRoomForTerm
  rw [hI.2.2.2.2.2.1, if_pos (show nI K < 20 from nI_lt (b := 20) hK (by omega))]
theorem u_clear (hI : XI X T N K) : fX3_clearTerms X = some (nI K, up X 15 0 0) ∧ XI (up X 15 0 0) T N 0 := by
  obtain ⟨hT, hN, hK, h14, h12, h15, hXT, hXD, hXK, hXM⟩ := hI
  refine ⟨?_, hT, hN, by omega, ?_, ?_, ?_, ?_, ?_, ?_, ?_⟩
  · unfold fX3_clearTerms
    rw [bS, h15, bS]
  · rw [up_n (by decide), h14]
  · rw [up_n (by decide), h12]
  · rw [up_ss]
    rfl
  · unfold XT
    rw [up_n (by decide), up_n (by decide)]
    exact hXT
  · unfold XD
    rw [up_n (by decide), up_n (by decide), up_n (by decide), up_n (by decide)]
    exact hXD
  · intro k hk
    exact absurd hk (Nat.not_lt_zero _)
  · intro k hk
    exact absurd hk (Nat.not_lt_zero _)
end OPS
