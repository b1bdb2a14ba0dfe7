/-! THE COVER OF A TERM -/
theorem cov_ex {X : St} {T N K k : Nat} (hI : XI X T N K) (hk : k < K) : ∃ s c, s ≤ 16 ∧ cx (fun t => dhf (X 1) t N) 16 s (X 9 k) = some c ∧ ∀ i, i < s → cx (fun t => dhf (X 1) t N) 16 i (X 9 k) = none := by
  have hsub := xi_sub hI hk
  obtain ⟨hT, hN, hK, h14, h12, h15, hXT, hXD, hXK, hXM⟩ := hI
  obtain ⟨c0, hc0⟩ := cx_comp (v := fun t => dhf (X 1) t N) 16 16 (X 9 k) (Nat.le_refl _) (Nat.le_refl _) (fun d hd => by
    have hdN := hsub d hd
    obtain ⟨t, ht⟩ := bt_ne0.mp (hXD.1 d hdN)
    have htT := hXD.2.1 d hdN t ht
    refine ⟨t, by omega, by omega, ?_⟩
    show bt (dhf (X 1) t N) d = true
    rw [dhf_b d N (by omega)]
    refine ⟨hdN, ?_⟩
    rw [hXD.2.2.2 d hdN, lnsf_b]
    exact ⟨t, htT, ht, tt_self hXT hT htT⟩)
  obtain ⟨s, h1, h2⟩ := pk_least (fun s => ∃ c, cx (fun t => dhf (X 1) t N) 16 s (X 9 k) = some c) ⟨16, c0, hc0⟩
  obtain ⟨c, hc⟩ := h1
  refine ⟨s, c, ?_, hc, fun i hi => ?_⟩
  · rcases Nat.lt_or_ge 16 s with q | q
    · exact absurd ⟨c0, hc0⟩ (h2 16 q)
    · exact q
  · cases hq : cx (fun t => dhf (X 1) t N) 16 i (X 9 k) with
    | none => rfl
    | some c' => exact absurd ⟨c', hq⟩ (h2 i hi)
theorem small_3 {m : Int32} : ∀ (j n : Nat) (S : St), j ≤ 16 → j < n → (∀ t, j ≤ t → t < 16 → ∀ i, t ≤ i → i < 16 → ∀ d, bt (S 10 i) d = true → bt (S 11 t) d = true) →
    ∃ S', fX0_smallestOf_3 m n S (nI j - 1) = fX0_smallestOf_36 m 100 S' 0 ∧ (∀ t, t < 16 → ∀ i, t ≤ i → i < 16 → ∀ d, bt (S' 10 i) d = true → bt (S' 11 t) d = true) ∧ ∀ a, a ≠ 11 → S' a = S a := by
  intro j
  induction j with
  | zero =>
    intro n S hj hn h
    obtain ⟨n, rfl⟩ : ∃ k, n = k + 1 := ⟨n - 1, by omega⟩
    refine ⟨S, ?_, fun t ht => h t (by omega) ht, fun _ _ => rfl⟩
    rw [fX0_smallestOf_3, if_pos (show nI 0 - 1 < 0 by decide)]
  | succ j ih =>
    intro n S hj hn h
    obtain ⟨n, rfl⟩ : ∃ k, n = k + 1 := ⟨n - 1, by omega⟩
    obtain ⟨S', h1, h2, h3⟩ := ih n (up S 11 j (S 11 (j + 1) ||| S 10 j)) (by omega) (by omega) (fun t ht ht2 i hi hi2 d hd => by
      rw [up_n (by decide)] at hd
      by_cases e : t = j
      · subst e
        rw [up_ss, b_or]
        by_cases e2 : i = t
        · subst e2
          rw [hd, Bool.or_true]
        · rw [h (t + 1) (by omega) (by omega) i (by omega) hi2 d hd]
          rfl
      · rw [up_sn e]
        exact h t (by omega) ht2 i hi hi2 d hd)
    refine ⟨S', ?_, h2, fun a ha => by rw [h3 a ha, up_n ha]⟩
    rw [fX0_smallestOf_3, nI_pred, if_neg (nI_pos (by omega)), nI_1, ld_n (by omega) (by omega), bS, ld_n (by omega) (by omega), bS, sto_n (by omega) (by omega), bS, bS, ← h1, Int32.sub_eq_add_neg]
theorem smallest_n {S : St} {v : Nat → Int32} {m c : Int32} {s : Nat} (hw : ∀ t, t < 16 → S 10 t = v t &&& m) (hs : s ≤ 16) (hc : cx v 16 s m = some c) (hl : ∀ i, i < s → cx v 16 i m = none) : ∃ S', fX0_smallestOf S m = some (c, S') ∧ ∀ a, a ≠ 11 → S' a = S a := by
  obtain ⟨S', h1, h2, h3⟩ := small_3 (m := m) 16 100 S (by omega) (by omega) (fun t h1 h2 => by omega)
  refine ⟨S', ?_, h3⟩
  unfold fX0_smallestOf
  rw [show (15 : Int32) = nI 16 - 1 from by decide, h1]
  have hcf : ∀ i, i ≤ 16 → fX0_coverFrom 20 S' 0 (nI i) m = some (cxI (cx v 16 i m)) := fun i hi => by
    have := cf_n (v := v) (m := m) (fun t ht => by rw [h3 10 (by decide)]; exact hw t ht) h2 16 i 20 m (by omega) (by omega) hi (fun _ h => h)
    rw [show 16 - 16 = 0 from rfl, nI_0] at this
    exact this
  refine loop100 (f := fun n (_ : Unit) i => fX0_smallestOf_36 m n S' i) (st := fun _ => ()) (T := s) (by omega) ?_ ?_
  · intro n
    show fX0_smallestOf_36 m (n + 1) S' _ = _
    rw [fX0_smallestOf_36, if_neg (show ¬ 16 < nI s from nI_nlt (b := s) (a := 16) hs (by omega)), hcf s hs, bS, hc]
    have hb := (cx_sound 16 s m c (by omega) hc).1
    show (if c = -1 then _ else _) = _
    rw [if_neg (n1_16 (fun i hi => (hb i hi).2.1))]
    rfl
  · intro n i hi
    show fX0_smallestOf_36 m (n + 1) S' _ = fX0_smallestOf_36 m n S' _
    rw [fX0_smallestOf_36, if_neg (show ¬ 16 < nI i from nI_nlt (b := i) (a := 16) (by omega) (by omega)), hcf i (by omega), bS, hl i hi]
    show (if (-1 : Int32) = -1 then _ else _) = _
    rw [if_pos rfl, bS, nI_1]
theorem covX {X : St} {T N K k s : Nat} {c : Int32} (hI : XI X T N K) (hk : k < K) (hs : s ≤ 16) (hc : cx (fun t => dhf (X 1) t N) 16 s (X 9 k) = some c) (hl : ∀ i, i < s → cx (fun t => dhf (X 1) t N) 16 i (X 9 k) = none) :
    ∃ X', fX3_smallestCover X (nI k) = some (c, X') ∧ ∀ a, a ≠ 10 → a ≠ 11 → X' a = X a := by
  have hK := hI.2.2.1
  have hN := hI.2.1
  have h12 := hI.2.2.2.2.1
  obtain ⟨X1, h1⟩ : ∃ z, z = sR X 10 (fil (fun t => dhf (X 1) t N &&& X 9 k) (X 10) 16) := ⟨_, rfl⟩
  obtain ⟨X2, q1, q2⟩ := smallest_n (S := X1) (v := fun t => dhf (X 1) t N) (m := X 9 k) (fun t ht => by rw [h1, sR_s, fil_in ht]) hs hc hl
  refine ⟨X2, ?_, fun a h10 h11 => by rw [q2 a h11, h1, sR_n h10]⟩
  unfold fX3_smallestCover
  rw [ld_n (by omega) (by omega), bS]
  have key := loop100 (f := fX3_smallestCover_12 (X 9 k)) (st := fun i => sR X 10 (fil (fun t => dhf (X 1) t N &&& X 9 k) (X 10) i)) (T := 16) (r := some (c, X2)) (by omega) ?_ ?_
  · rw [fil_0, sR_id] at key
    exact key
  · intro n
    rw [fX3_smallestCover_12, if_pos (show (16 : Int32) ≤ nI 16 from Int32.le_refl _), ← h1, q1, bS, pr_i]
  · intro n i hi
    rw [fX3_smallestCover_12, if_neg (show ¬ (16 : Int32) ≤ nI i from nI_ge (b := 16) hi (by omega)), dreamsHaving_n (N := N) (by rw [sR_n (a := 12) (by decide)]; exact h12) hN (by omega), bS, sto_n (by omega) (by omega), bS, bS, nI_1, up_sR, sR_n (a := 1) (by decide), fil_s (fun t => dhf (X 1) t N &&& X 9 k)]
theorem cov_bits {X : St} {T N K k s : Nat} {c : Int32} (hI : XI X T N K) (hc : cx (fun t => dhf (X 1) t N) 16 s (X 9 k) = some c) (i : Nat) (hi : bt c i = true) : i < T := by
  have hN := hI.2.1
  have h1 := ((cx_sound 16 s _ c (by omega) hc).1 i hi).2.2
  obtain ⟨d, hd⟩ := bt_ne0.mp h1
  obtain ⟨h2, h3⟩ := (dhf_b d N (by omega)).mp hd
  exact xi_has hI h2 i h3
/-! the tags of the cover one by one -/
theorem ct_p {c : Int32} {i : Nat} (hi : bt c i = true) : fb_ct (bt c) i < cnt c := by
  have h1 := fb_ct_mono (bt c) (show i + 1 ≤ 32 from bt_lt hi)
  rw [fb_ct_succ, hi] at h1
  exact h1
def rmv (c : Int32) : Nat → Int32
  | 0 => c
  | j + 1 => rmv c j &&& (rmv c j - 1)
theorem rmv_b (c : Int32) : ∀ (j : Nat), j ≤ cnt c → ∀ i, bt (rmv c j) i = (bt c i && decide (j ≤ fb_ct (bt c) i)) := by
  intro j
  induction j with
  | zero =>
    intro _ i
    rw [decide_eq_true (Nat.zero_le _), Bool.and_true]
    rfl
  | succ j ih =>
    intro hj i
    have ih := ih (by omega)
    obtain ⟨i1, hi1, hb1, hk1⟩ := fb_ct_kth (p := bt c) (k := j) (n := 32) (by show j < cnt c; omega)
    have hne : rmv c j ≠ 0 := bt_ne0.mpr ⟨i1, by rw [ih, hb1, hk1, decide_eq_true (Nat.le_refl _)]; rfl⟩
    obtain ⟨t, ht, h1, h2, h3⟩ := low_bit hne
    have h1' := h1
    rw [ih] at h1
    obtain ⟨h4, h5⟩ := (Bool.and_eq_true _ _).mp h1
    have h5 := of_decide_eq_true h5
    have hle : t ≤ i1 := by
      rcases Nat.lt_or_ge i1 t with q | q
      · have := h2 i1 q
        rw [ih, hb1, hk1, decide_eq_true (Nat.le_refl _)] at this
        cases this
      · exact q
    have h6 : fb_ct (bt c) t = j := by
      have := fb_ct_mono (bt c) hle
      omega
    show bt (rmv c j &&& (rmv c j - 1)) i = _
    rw [h3, ih]
    cases hb : bt c i
    · rfl
    · by_cases e : i = t
      · subst e
        rw [decide_eq_true rfl, decide_eq_false (by omega : ¬ j + 1 ≤ fb_ct (bt c) i)]
        simp
      · have hn : fb_ct (bt c) i ≠ j := fun q => e (fb_ct_kth_one hb h4 (by rw [q, h6]))
        rw [decide_eq_false e]
        by_cases q : j ≤ fb_ct (bt c) i
        · rw [decide_eq_true q, decide_eq_true (by omega : j + 1 ≤ fb_ct (bt c) i)]
          rfl
        · rw [decide_eq_false q, decide_eq_false (by omega : ¬ j + 1 ≤ fb_ct (bt c) i)]
          rfl
