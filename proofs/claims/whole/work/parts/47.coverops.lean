/-! THE COVER OF A TERM -/
theorem cov_ex {X : St} {T N K k : Nat} (hI : XI X T N K) (hk : k < K) : ∃ s c, s ≤ 16 ∧ cx (fun t => dhf (X 1) t N) 16 s (X 9 k) = some c ∧ ∀ i, i < s → cx (fun t => dhf (X 1) t N) 16 i (X 9 k) = none := by
  have hsub := xi_sub hI hk
  obtain ⟨hT, hN, hK, h14, h12, h15, hXT, hXD, hXK, hXM⟩ := hI
  obtain ⟨c0, hc0⟩ := cx_comp (v := fun t => dhf (X 1) t N) 16 16 (X 9 k) (Nat.le_refl _) (Nat.le_refl _) (fun d hd => by
    have hdN := hsub d hd
    obtain ⟨t, ht⟩ := bt_ne0.mp (hXD.1 d hdN)
    have htT := hXD.2.1 d hdN t ht
    refine ⟨t, by omega, by omega, ?_⟩
    show bt (dhf (X 1) t N) d = true
    rw [dhf_b d N (by omega)]
    refine ⟨hdN, ?_⟩
    rw [hXD.2.2.2 d hdN, lnsf_b]
    exact ⟨t, htT, ht, tt_self hXT hT htT⟩)
  obtain ⟨s, h1, h2⟩ := pk_least (fun s => ∃ c, cx (fun t => dhf (X 1) t N) 16 s (X 9 k) = some c) ⟨16, c0, hc0⟩
  obtain ⟨c, hc⟩ := h1
  refine ⟨s, c, ?_, hc, fun i hi => ?_⟩
  · rcases Nat.lt_or_ge 16 s with q | q
    · exact absurd ⟨c0, hc0⟩ (h2 16 q)
    · exact q
  · cases hq : cx (fun t => dhf (X 1) t N) 16 i (X 9 k) with
    | none => rfl
    | some c' => exact absurd ⟨c', hq⟩ (h2 i hi)
theorem small_3 {m : Int32} : ∀ (j n : Nat) (S : St), j ≤ 16 → j < n → (∀ t, j ≤ t → t < 16 → ∀ i, t ≤ i → i < 16 → ∀ d, bt (S 10 i) d = true → bt (S 11 t) d = true) →
    ∃ S', fX0_smallestOf_3 m n S (nI j - 1) = fX0_smallestOf_36 m 100 S' 0 ∧ (∀ t, t < 16 → ∀ i, t ≤ i → i < 16 → ∀ d, bt (S' 10 i) d = true → bt (S' 11 t) d = true) ∧ ∀ a, a ≠ 11 → S' a = S a := by
  intro j
  induction j with
  | zero =>
    intro n S hj hn h
    obtain ⟨n, rfl⟩ : ∃ k, n = k + 1 := ⟨n - 1, by omega⟩
    refine ⟨S, ?_, fun t ht => h t (by omega) ht, fun _ _ => rfl⟩
    rw [fX0_smallestOf_3, if_pos (show nI 0 - 1 < 0 by decide)]
  | succ j ih =>
    intro n S hj hn h
    obtain ⟨n, rfl⟩ : ∃ k, n = k + 1 := ⟨n - 1, by omega⟩
    obtain ⟨S', h1, h2, h3⟩ := ih n (up S 11 j (S 11 (j + 1) ||| S 10 j)) (by omega) (by omega) (fun t ht ht2 i hi hi2 d hd => by
      rw [up_n (by decide)] at hd
      by_cases e : t = j
      · subst e
        rw [up_ss, b_or]
        by_cases e2 : i = t
        · subst e2
          rw [hd, Bool.or_true]
        · rw [h (t + 1) (by omega) (by omega) i (by omega) hi2 d hd]
          rfl
      · rw [up_sn e]
        exact h t (by omega) ht2 i hi hi2 d hd)
    refine ⟨S', ?_, h2, fun a ha => by rw [h3 a ha, up_n ha]⟩
    rw [fX0_smallestOf_3, nI_pred, if_neg (nI_pos (by omega)), nI_1, ld_n (by omega) (by omega), bS, ld_n (by omega) (by omega), bS, sto_n (by omega) (by omega), bS, bS, ← h1, Int32.sub_eq_add_neg]
theorem smallest_n {S : St} {v : Nat → Int32} {m c : Int32} {s : Nat} (hw : ∀ t, t < 16 → S 10 t = v t &&& m) (hs : s ≤ 16) (hc : cx v 16 s m = some c) (hl : ∀ i, i < s → cx v 16 i m = none) : ∃ S', fX0_smallestOf S m = some (c, S') ∧ ∀ a, a ≠ 11 → S' a = S a := by
  obtain ⟨S', h1, h2, h3⟩ := small_3 (m := m) 16 100 S (by omega) (by omega) (fun t h1 h2 => by omega)
  refine ⟨S', ?_, h3⟩
  unfold fX0_smallestOf
  rw [show (15 : Int32) = nI 16 - 1 from by decide, h1]
  have hcf : ∀ i, i ≤ 16 → fX0_coverFrom 20 S' 0 (nI i) m = some (cxI (cx v 16 i m)) := fun i hi => by
    have := cf_n (v := v) (m := m) (fun t ht => by rw [h3 10 (by decide)]; exact hw t ht) h2 16 i 20 m (by omega) (by omega) hi (fun _ h => h)
    rw [show 16 - 16 = 0 from rfl, nI_0] at this
    exact this
  refine loop100 (f := fun n (_ : Unit) i => fX0_smallestOf_36 m n S' i) (st := fun _ => ()) (T := s) (by omega) ?_ ?_
  · intro n
    show fX0_smallestOf_36 m (n + 1) S' _ = _
    rw [fX0_smallestOf_36, if_neg (show ¬ 16 < nI s from nI_nlt (b := s) (a := 16) hs (by omega)), hcf s hs, bS, hc]
    have hb := (cx_sound 16 s m c (by omega) hc).1
    show (if c = -1 then _ else _) = _
    rw [if_neg (n1_16 (fun i hi => (hb i hi).2.1))]
    rfl
  · intro n i hi
    show fX0_smallestOf_36 m (n + 1) S' _ = fX0_smallestOf_36 m n S' _
    rw [fX0_smallestOf_36, if_neg (show ¬ 16 < nI i from nI_nlt (b := i) (a := 16) (by omega) (by omega)), hcf i (by omega), bS, hl i hi]
    show (if (-1 : Int32) = -1 then _ else _) = _
    rw [if_pos rfl, bS, nI_1]
theorem covX {X : St} {T N K k s : Nat} {c : Int32} (hI : XI X T N K) (hk : k < K) (hs : s ≤ 16) (hc : cx (fun t => dhf (X 1) t N) 16 s (X 9 k) = some c) (hl : ∀ i, i < s → cx (fun t => dhf (X 1) t N) 16 i (X 9 k) = none) :
    ∃ X', fX3_smallestCover X (nI k) = some (c, X') ∧ ∀ a, a ≠ 10 → a ≠ 11 → X' a = X a := by
  have hK := hI.2.2.1
  have hN := hI.2.1
  have h12 := hI.2.2.2.2.1
  obtain ⟨X1, h1⟩ : ∃ z, z = sR X 10 (fil (fun t => dhf (X 1) t N &&& X 9 k) (X 10) 16) := ⟨_, rfl⟩
  obtain ⟨X2, q1, q2⟩ := smallest_n (S := X1) (v := fun t => dhf (X 1) t N) (m := X 9 k) (fun t ht => by rw [h1, sR_s, fil_in ht]) hs hc hl
  refine ⟨X2, ?_, fun a h10 h11 => by rw [q2 a h11, h1, sR_n h10]⟩
  unfold fX3_smallestCover
  rw [ld_n (by omega) (by omega), bS]
  have key := loop100 (f := fX3_smallestCover_12 (X 9 k)) (st := fun i => sR X 10 (fil (fun t => dhf (X 1) t N &&& X 9 k) (X 10) i)) (T := 16) (r := some (c, X2)) (by omega) ?_ ?_
  · rw [fil_0, sR_id] at key
    exact key
  · intro n
    rw [fX3_smallestCover_12, if_pos (show (16 : Int32) ≤ nI 16 from Int32.le_refl _), ← h1, q1, bS, pr_i]
  · intro n i hi
    rw [fX3_smallestCover_12, if_neg (show ¬ (16 : Int32) ≤ nI i from nI_ge (b := 16) hi (by omega)), dreamsHaving_n (N := N) (by rw [sR_n (a := 12) (by decide)]; exact h12) hN (by omega), bS, sto_n (by omega) (by omega), bS, bS, nI_1, up_sR, sR_n (a := 1) (by decide), fil_s (fun t => dhf (X 1) t N &&& X 9 k)]
theorem covM {X M : St} {T N K k s : Nat} {c : Int32} (hI : XI X T N K) (hk : k < K) (g : GM M T N (X 1)) (hs : s ≤ 16) (hc : cx (fun t => dhf (X 1) t N) 16 s (X 9 k) = some c) (hl : ∀ i, i < s → cx (fun t => dhf (X 1) t N) 16 i (X 9 k) = none) :
    ∃ M', fX4_cover M (X 9 k) = some (c, M') ∧ ∀ a, a ≠ 15 → M' a = M a := by
  have hT := hI.1
  have hN := hI.2.1
  refine ⟨up M 15 0 c, ?_, fun a h => up_n h⟩
  unfold fX4_cover
  rw [bS]
  have hcv : ∀ i, i ≤ 16 → fX4_covers 20 (up M 15 0 0) 0 (nI i) (X 9 k) = some (cxM (up M 15 0 0) (cx (fun t => dhf (X 1) t N) 16 i (X 9 k))) := fun i hi => by
    have := covers_n (h := X 1) hT hN (fun d hd j hj => xi_has hI hd j hj) 20 16 i (up M 15 0 0) (X 9 k) (by omega) (by omega) hi (gm_up g 0) (fun d hd => xi_sub hI hk d hd) (fun j hj => by
      rw [up_ss] at hj
      exact b0x hj)
    rw [show 16 - 16 = 0 from rfl, nI_0] at this
    exact this
  refine loop100 (f := fX4_cover_7 (X 9 k)) (st := fun _ => up M 15 0 0) (T := s) (by omega) ?_ ?_
  · intro n
    rw [fX4_cover_7, hcv s hs, bS, hc]
    dsimp only [cxM, pr]
    rw [if_neg n10, uuu, up_ss, up_ss, Int32.zero_or]
  · intro n i hi
    rw [fX4_cover_7, hcv i (by omega), bS, hl i hi]
    dsimp only [cxM, pr]
    rw [if_pos rfl, bS, nI_1]
theorem cov_bits {X : St} {T N K k s : Nat} {c : Int32} (hI : XI X T N K) (hc : cx (fun t => dhf (X 1) t N) 16 s (X 9 k) = some c) (i : Nat) (hi : bt c i = true) : i < T := by
  have hN := hI.2.1
  have h1 := ((cx_sound 16 s _ c (by omega) hc).1 i hi).2.2
  obtain ⟨d, hd⟩ := bt_ne0.mp h1
  obtain ⟨h2, h3⟩ := (dhf_b d N (by omega)).mp hd
  exact xi_has hI h2 i h3
theorem gm_reck {X M : St} {T N K : Nat} (hR : XR X M T N K) (h7 : ∀ d, d < N → M 7 d = X 1 d) (h8 : ∀ t, t < T → M 8 t = dhf (X 1) t N) : GM M T N (X 1) := ⟨hR.1, hR.2.1, h7, h8⟩
/-! the tags of the cover one by one -/
theorem ct_p {c : Int32} {i : Nat} (hi : bt c i = true) : fb_ct (bt c) i < cnt c := by
  have h1 := fb_ct_mono (bt c) (show i + 1 ≤ 32 from bt_lt hi)
  rw [fb_ct_succ, hi] at h1
  exact h1
theorem member_y {c : Int32} {i0 : Nat} (hi : i0 < 16) (hb : bt c i0 = true) : fX3_memberAt c (nI (fb_ct (bt c) i0)) = some (nI i0) := by
  unfold fX3_memberAt
  have hle : ∀ i, fb_ct (bt c) i ≤ i := fb_ct_le _
  refine loop100 (f := fX3_memberAt_4 c (nI (fb_ct (bt c) i0))) (st := fun i => nI (fb_ct (bt c) i)) (T := i0) (by omega) ?_ ?_
  · intro n
    rw [fX3_memberAt_4, if_neg (show ¬ (16 : Int32) ≤ nI i0 from nI_ge (b := 16) hi (by omega)), isIn_n (by omega), bS, hb, if_pos rfl, if_neg n10, if_pos rfl]
  · intro n i hi2
    rw [fX3_memberAt_4, if_neg (show ¬ (16 : Int32) ≤ nI i from nI_ge (b := 16) (by omega) (by omega)), isIn_n (by omega), bS, fb_ct_succ]
    cases hbi : bt c i
    · rw [isF, if_pos rfl, bS, nI_1]
      rfl
    · have h1 := fb_ct_mono (bt c) (show i + 1 ≤ i0 by omega)
      rw [fb_ct_succ, hbi, if_pos rfl] at h1
      have := hle i
      have := hle i0
      rw [if_pos rfl, if_neg n10, if_neg (fun q => by
        have := (nI_eq (by omega) (by omega)).mp q
        omega), bS, bS, nI_1, nI_1]
      rfl
theorem member_n {c a : Int32} (h : ∀ i, i < 16 → bt c i = true → nI (fb_ct (bt c) i) ≠ a) : fX3_memberAt c a = some (-1) := by
  unfold fX3_memberAt
  refine loop100 (f := fX3_memberAt_4 c a) (st := fun i => nI (fb_ct (bt c) i)) (T := 16) (by omega) ?_ ?_
  · intro n
    rw [fX3_memberAt_4, if_pos (show (16 : Int32) ≤ nI 16 from Int32.le_refl _)]
  · intro n i hi
    rw [fX3_memberAt_4, if_neg (show ¬ (16 : Int32) ≤ nI i from nI_ge (b := 16) (by omega) (by omega)), isIn_n (by omega), bS, fb_ct_succ]
    cases hbi : bt c i
    · rw [isF, if_pos rfl, bS, nI_1]
      rfl
    · rw [if_pos rfl, if_neg n10, if_neg (h i hi hbi), bS, bS, nI_1, nI_1]
      rfl
def rmv (c : Int32) : Nat → Int32
  | 0 => c
  | j + 1 => rmv c j &&& (rmv c j - 1)
theorem rmv_b (c : Int32) : ∀ (j : Nat), j ≤ cnt c → ∀ i, bt (rmv c j) i = (bt c i && decide (j ≤ fb_ct (bt c) i)) := by
  intro j
  induction j with
  | zero =>
    intro _ i
    rw [decide_eq_true (Nat.zero_le _), Bool.and_true]
    rfl
  | succ j ih =>
    intro hj i
    have ih := ih (by omega)
    obtain ⟨i1, hi1, hb1, hk1⟩ := fb_ct_kth (p := bt c) (k := j) (n := 32) (by show j < cnt c; omega)
    have hne : rmv c j ≠ 0 := bt_ne0.mpr ⟨i1, by rw [ih, hb1, hk1, decide_eq_true (Nat.le_refl _)]; rfl⟩
    obtain ⟨t, ht, h1, h2, h3⟩ := low_bit hne
    have h1' := h1
    rw [ih] at h1
    obtain ⟨h4, h5⟩ := (Bool.and_eq_true _ _).mp h1
    have h5 := of_decide_eq_true h5
    have hle : t ≤ i1 := by
      rcases Nat.lt_or_ge i1 t with q | q
      · have := h2 i1 q
        rw [ih, hb1, hk1, decide_eq_true (Nat.le_refl _)] at this
        cases this
      · exact q
    have h6 : fb_ct (bt c) t = j := by
      have := fb_ct_mono (bt c) hle
      omega
    show bt (rmv c j &&& (rmv c j - 1)) i = _
    rw [h3, ih]
    cases hb : bt c i
    · rfl
    · by_cases e : i = t
      · subst e
        rw [decide_eq_true rfl, decide_eq_false (by omega : ¬ j + 1 ≤ fb_ct (bt c) i)]
        simp
      · have hn : fb_ct (bt c) i ≠ j := fun q => e (fb_ct_kth_one hb h4 (by rw [q, h6]))
        rw [decide_eq_false e]
        by_cases q : j ≤ fb_ct (bt c) i
        · rw [decide_eq_true q, decide_eq_true (by omega : j + 1 ≤ fb_ct (bt c) i)]
          rfl
        · rw [decide_eq_false q, decide_eq_false (by omega : ¬ j + 1 ≤ fb_ct (bt c) i)]
          rfl
theorem tag_57 {S : St} {c : Int32} {i0 : Nat} (hi : i0 < 16) (hb : bt c i0 = true) : fX4_coverTag_57 (nI (fb_ct (bt c) i0)) 100 S c 0 = some (nI i0, S) := by
  have hle : fb_ct (bt c) i0 ≤ i0 := fb_ct_le _ _
  have hcn : fb_ct (bt c) i0 ≤ cnt c := Nat.le_of_lt (ct_p hb)
  have h78 : fX4_coverTag_78 (rmv c (fb_ct (bt c) i0)) 100 S 0 = some (nI i0, S) := by
    refine loop100 (f := fX4_coverTag_78 (rmv c (fb_ct (bt c) i0))) (st := fun _ => S) (T := i0) (by omega) ?_ ?_
    · intro n
      rw [fX4_coverTag_78, is_n (by omega), bS, rmv_b c _ hcn, hb, decide_eq_true (Nat.le_refl _)]
      rfl
    · intro n i hi2
      have hz : bt (rmv c (fb_ct (bt c) i0)) i = false := by
        rw [rmv_b c _ hcn]
        cases hbi : bt c i
        · rfl
        · have h1 := fb_ct_mono (bt c) (show i + 1 ≤ i0 by omega)
          rw [fb_ct_succ, hbi, if_pos rfl] at h1
          rw [decide_eq_false (by omega)]
          rfl
      rw [fX4_coverTag_78, is_n (by omega), bS, hz, isF, if_pos rfl, bS, nI_1]
  refine loop100 (f := fun n x i => fX4_coverTag_57 (nI (fb_ct (bt c) i0)) n S x i) (st := fun i => rmv c i) (T := fb_ct (bt c) i0) (by omega) ?_ ?_
  · intro n
    show fX4_coverTag_57 _ (n + 1) S _ _ = _
    rw [fX4_coverTag_57, if_pos gT, h78]
  · intro n i hi2
    show fX4_coverTag_57 _ (n + 1) S _ _ = fX4_coverTag_57 _ n S _ _
    rw [fX4_coverTag_57, if_neg (gL hi2 (by omega)), bS, bS, nI_1]
    rfl
theorem op_coverSize {X M : St} (a1 : Int32) (h : Rel X M) : ∃ R r M1, fX3_coverSize X a1 = some R ∧ fX4_coverSize M a1 = some (r, M1) ∧ AgW [IOB] R r M1 := by
  obtain ⟨T, N, K, M0, e0, z0, hI, hR⟩ := rel_s h
  have hI' := hI
  obtain ⟨hT, hN, hK, h14, h12, h15, hXT, hXD, hXK, hXM⟩ := hI
  rcases g_term h15 hR.2.2.1 hK a1 with ⟨g0, m0⟩ | ⟨k, hk, rfl, g0, m0⟩
  · exact ⟨Sum.inl (IOB, X), 0, up M0 10 0 1, by unfold fX3_coverSize; rw [g0]; rfl, by unfold fX4_coverSize; rw [← e0, bS, m0]; rfl, agW_no (by decide) (by decide) hI' hR⟩
  · skip
    obtain ⟨Mr, q1, q7, q8, q9, qo, hRr⟩ := r_reck hI' hR
    have z0r : Mr 10 0 = 0 := by rw [qo 10 (by decide) (by decide) (by decide), z0]
    obtain ⟨s, c, hs, hc, hl⟩ := cov_ex hI' hk
    obtain ⟨X2, u1, u2⟩ := covX hI' hk hs hc hl
    obtain ⟨M2, w1, w2⟩ := covM hI' hk (gm_reck hRr q7 q8) hs hc hl
    have hI2 := xi_x hI' u2
    have hR2 : XR X2 M2 T N K := xr_x (xr_m hRr (fun a ha => w2 a (by unfold mR at ha; omega))) u2
    have z2 : M2 10 0 = 0 := by rw [w2 10 (by decide), z0r]
    refine ⟨Sum.inr (nI (cnt c), X2), nI (cnt c), M2, ?_, ?_, ?_⟩
    · unfold fX3_coverSize
      rw [g0, bS, xb_i]
      rw [u1, bS, pr_i, bitCount_n, bS]
    · unfold fX4_coverSize
      rw [← e0, bS, m0, bS, if_neg n10]
      rw [q1, bS, ld_n (by omega) (by omega), bS, q9 k hk, w1, bS, pr_i, many_n, bS]
    · exact agW_ok (rel_of hI2 hR2) z2
theorem op_coverTag {X M : St} (a1 a2 : Int32) (h : Rel X M) : ∃ R r M1, fX3_coverTag X a1 a2 = some R ∧ fX4_coverTag M a1 a2 = some (r, M1) ∧ AgW [IOB] R r M1 := by
  obtain ⟨T, N, K, M0, e0, z0, hI, hR⟩ := rel_s h
  have hI' := hI
  obtain ⟨hT, hN, hK, h14, h12, h15, hXT, hXD, hXK, hXM⟩ := hI
  rcases g_term h15 hR.2.2.1 hK a1 with ⟨g0, m0⟩ | ⟨k, hk, rfl, g0, m0⟩
  · exact ⟨Sum.inl (IOB, X), 0, up M0 10 0 1, by unfold fX3_coverTag; rw [g0]; rfl, by unfold fX4_coverTag; rw [← e0, bS, m0]; rfl, agW_no (by decide) (by decide) hI' hR⟩
  · skip
    obtain ⟨Mr, q1, q7, q8, q9, qo, hRr⟩ := r_reck hI' hR
    have z0r : Mr 10 0 = 0 := by rw [qo 10 (by decide) (by decide) (by decide), z0]
    obtain ⟨s, c, hs, hc, hl⟩ := cov_ex hI' hk
    obtain ⟨X2, u1, u2⟩ := covX hI' hk hs hc hl
    obtain ⟨M2, w1, w2⟩ := covM hI' hk (gm_reck hRr q7 q8) hs hc hl
    have hI2 := xi_x hI' u2
    have hR2 : XR X2 M2 T N K := xr_x (xr_m hRr (fun a ha => w2 a (by unfold mR at ha; omega))) u2
    have z2 : M2 10 0 = 0 := by rw [w2 10 (by decide), z0r]
    have hb16 : ∀ i, bt c i = true → i < 16 := fun i hi => by have := cov_bits hI' hc i hi; omega
    have hcl : cnt c ≤ 32 := cnt_le c
    rcases isIn_c (n := cnt c) (by omega) a2 with ⟨m1, g1⟩ | ⟨j, hj, rfl, m1⟩
    · refine ⟨Sum.inl (IOB, X2), 0, up M2 10 0 1, ?_, ?_, agW_no (by decide) (by decide) hI2 hR2⟩
      · unfold fX3_coverTag
        rw [g0, bS, xb_i, u1, bS, pr_i, member_n (fun i hi hb q => by
          have h1 := ct_p hb
          rcases g1 with g1 | ⟨g1, g2⟩
          · rw [← q] at g1
            exact nI_pos (by omega) g1
          · rw [← q] at g2
            exact g2 (nI_lt h1 (by omega))), bS, if_pos rfl]
        rfl
      · unfold fX4_coverTag
        rw [← e0, bS, m0, bS, if_neg n10, q1, bS, ld_n (by omega) (by omega), bS, q9 k hk, w1, bS, pr_i, many_n, bS, m1, bS, if_pos rfl]
        rfl
    · obtain ⟨i0, hi0, hb0, hk0⟩ := fb_ct_kth (p := bt c) (k := j) (n := 32) hj
      have hi16 := hb16 i0 hb0
      refine ⟨Sum.inr (nI i0, X2), nI i0, M2, ?_, ?_, agW_ok (rel_of hI2 hR2) z2⟩
      · unfold fX3_coverTag
        rw [g0, bS, xb_i, u1, bS, pr_i, ← hk0, member_y hi16 hb0, bS, if_neg (nI_m1 (by omega))]
      · unfold fX4_coverTag
        rw [← e0, bS, m0, bS, if_neg n10, q1, bS, ld_n (by omega) (by omega), bS, q9 k hk, w1, bS, pr_i, many_n, bS, m1, bS, if_neg n10, ← hk0, tag_57 hi16 hb0]
