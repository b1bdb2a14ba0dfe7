/-! THE DIGEST -/
def fo (g : Nat → Int64 → Int64) (a : Int64) : Nat → Int64
  | 0 => a
  | i + 1 => g i (fo g a i)
def dgS (m : Int32) (i : Nat) (a : Int64) : Int64 := a * 31 + (if bt m i = true then 1 else 0)
def dgC (c : Int32) (i : Nat) (a : Int64) : Int64 := if bt c i = true then a * 31 + Int32.toInt64 (nI i) else a
def dgT (X : St) (T N : Nat) (t : Nat) (a : Int64) : Int64 :=
  (((a * 31 + Int32.toInt64 (X 4 t)) * 31 + Int32.toInt64 (nI (cnt (ab (X 4) (X 5) t)))) * 31 + Int32.toInt64 (nI (fb_ct (fun i => bt (ab (X 4) (X 5) i) t) T))) * 31 + Int32.toInt64 (nI (cnt (dhf (X 1) t N)))
def dgD (X : St) (T : Nat) (d : Nat) (a : Int64) : Int64 :=
  fo (dgS (X 0 d)) (((a * 31 + Int32.toInt64 (nI (cnt (X 1 d)))) * 31 + Int32.toInt64 (X 2 d)) * 31 + Int32.toInt64 (X 3 d)) T
def dgK (X : St) (T N : Nat) (cv : Nat → Int32) (k : Nat) (a : Int64) : Int64 :=
  fo (dgS (X 9 k)) (fo (dgC (cv k)) ((((a * 31 + Int32.toInt64 (nI (cnt (X 9 k)))) * 31 + Int32.toInt64 (oI (low (X 9 k) (vv X) N))) * 31 + Int32.toInt64 (nI (cnt (shr X (X 9 k) N)))) * 31 + Int32.toInt64 (nI (cnt (cv k)))) T) N
theorem t01 (b : Bool) : Int32.toInt64 (if b = true then (1 : Int32) else 0) = (if b = true then (1 : Int64) else 0) := by cases b <;> decide
theorem dset_n {n : Nat} (hn : n ≤ 24) (m : Int32) (a : Int64) : fX3_digestedSet a m (nI n) = some (fo (dgS m) a n) := by
  unfold fX3_digestedSet
  refine loop100 (f := fX3_digestedSet_6 m (nI n)) (st := fun i => fo (dgS m) a i) (T := n) (by omega) ?_ ?_
  · intro k
    rw [fX3_digestedSet_6, if_pos gT]
  · intro k i hi
    rw [fX3_digestedSet_6, if_neg (gL hi (by omega)), isIn_n (by omega), bS]
    unfold fX3_digestedSet_28 fX3_digested
    show _ = fX3_digestedSet_6 m (nI n) k (fo (dgS m) a i * 31 + (if bt m i = true then 1 else 0)) _
    cases hb : bt m i
    · rw [isF, if_pos rfl, bS, bS, nI_1]
      rfl
    · rw [if_pos rfl, if_neg n10, bS, bS, nI_1]
      rfl
theorem dtag_n {X : St} {T N K t : Nat} (hI : XI X T N K) (ht : t < T) (a : Int64) : fX3_digestedTag X a (nI t) = some (dgT X T N t a) := by
  obtain ⟨hT, hN, hK, h14, h12, h15, hXT, hXD, hXK, hXM⟩ := hI
  unfold fX3_digestedTag fX3_digested
  rw [ld_n (by omega) (by omega), bS, bS, countAbove_n hXT hT ht, bS, bS, countBelow_n h14 hXT hT (by omega), bS, bS, dreamsHaving_n h12 hN (by omega), bS, bitCount_n, bS, bS]
  rfl
theorem ddream_n {X : St} {T N K d : Nat} (hI : XI X T N K) (hd : d < N) (a : Int64) : fX3_digestedDream X a (nI d) = some (dgD X T d a) := by
  obtain ⟨hT, hN, hK, h14, h12, h15, hXT, hXD, hXK, hXM⟩ := hI
  unfold fX3_digestedDream fX3_digested
  rw [ld_n (by omega) (by omega), bS, bitCount_n, bS, bS, ld_n (by omega) (by omega), bS, bS, ld_n (by omega) (by omega), bS, bS, ld_n (by omega) (by omega), bS, h14, dset_n (by omega), bS]
  rfl
theorem x63 {X : St} {T N K : Nat} (hI : XI X T N K) (a : Int64) : fX3_digest_63 100 X a 0 = fX3_digest_89 100 X (fo (dgT X T N) a T) 0 := by
  have hT := hI.1
  refine loop100 (f := fun n a i => fX3_digest_63 n X a i) (st := fun i => fo (dgT X T N) a i) (T := T) (by omega) ?_ ?_
  · intro n
    show fX3_digest_63 (n + 1) X _ _ = _
    rw [fX3_digest_63, hI.2.2.2.1, if_pos (Int32.le_refl _)]
  · intro n i hi
    show fX3_digest_63 (n + 1) X _ _ = fX3_digest_63 n X _ _
    rw [fX3_digest_63, hI.2.2.2.1, if_neg (gL hi (by omega)), dtag_n hI hi, bS, bS, nI_1]
    rfl
theorem x89 {X : St} {T N K : Nat} (hI : XI X T N K) (a : Int64) : fX3_digest_89 100 X a 0 = fX3_digest_112 100 X (fo (dgD X T) a N) 0 := by
  have hN := hI.2.1
  refine loop100 (f := fun n a i => fX3_digest_89 n X a i) (st := fun i => fo (dgD X T) a i) (T := N) (by omega) ?_ ?_
  · intro n
    show fX3_digest_89 (n + 1) X _ _ = _
    rw [fX3_digest_89, hI.2.2.2.2.1, if_pos (Int32.le_refl _)]
  · intro n i hi
    show fX3_digest_89 (n + 1) X _ _ = fX3_digest_89 n X _ _
    rw [fX3_digest_89, hI.2.2.2.2.1, if_neg (gL hi (by omega)), ddream_n hI hi, bS, bS, nI_1]
    rfl
/-- the covers of all terms -/
def CV (X : St) (N K : Nat) (cv : Nat → Int32) : Prop := ∀ k, k < K → ∃ s, s ≤ 16 ∧ cx (fun t => dhf (X 1) t N) 16 s (X 9 k) = some (cv k) ∧ ∀ i, i < s → cx (fun t => dhf (X 1) t N) 16 i (X 9 k) = none
theorem cv_ex {X : St} {T N K : Nat} (hI : XI X T N K) : ∃ cv, CV X N K cv := by
  have h : ∀ k, ∃ c, k < K → ∃ s, s ≤ 16 ∧ cx (fun t => dhf (X 1) t N) 16 s (X 9 k) = some c ∧ ∀ i, i < s → cx (fun t => dhf (X 1) t N) 16 i (X 9 k) = none := by
    intro k
    by_cases hk : k < K
    · obtain ⟨s, c, h1, h2, h3⟩ := cov_ex hI hk
      exact ⟨c, fun _ => ⟨s, h1, h2, h3⟩⟩
    · exact ⟨0, fun q => absurd q hk⟩
  obtain ⟨f, hf⟩ := Classical.skolem.mp h
  exact ⟨f, hf⟩
theorem gc_T {c : Int32} {T : Nat} (hT : T ≤ 16) (h : ∀ i, bt c i = true → i < T) (a : Int64) : fo (dgC c) a 16 = fo (dgC c) a T := by
  have : ∀ e, fo (dgC c) a (T + e) = fo (dgC c) a T := by
    intro e
    induction e with
    | zero => rfl
    | succ e ih =>
      show dgC c (T + e) (fo (dgC c) a (T + e)) = _
      rw [ih]
      unfold dgC
      cases hb : bt c (T + e)
      · exact if_neg (by decide)
      · have := h _ hb
        omega
  have h2 := this (16 - T)
  rwa [show T + (16 - T) = 16 by omega] at h2
theorem dterm_77 {S : St} {N : Nat} (h12 : S 12 0 = nI N) (hN : N ≤ 24) (m c : Int32) (a : Int64) : fX3_digestedTerm_77 m c 100 S a 0 = some (fo (dgS m) (fo (dgC c) a 16) N, S) := by
  refine loop100 (f := fun n a i => fX3_digestedTerm_77 m c n S a i) (st := fun i => fo (dgC c) a i) (T := 16) (by omega) ?_ ?_
  · intro n
    show fX3_digestedTerm_77 m c (n + 1) S _ _ = _
    rw [fX3_digestedTerm_77, if_pos (show (16 : Int32) ≤ nI 16 from Int32.le_refl _), h12, dset_n hN, bS]
  · intro n i hi
    show fX3_digestedTerm_77 m c (n + 1) S _ _ = fX3_digestedTerm_77 m c n S (if bt c i = true then _ else _) _
    rw [fX3_digestedTerm_77, if_neg (show ¬ (16 : Int32) ≤ nI i from nI_ge (b := 16) (by omega) (by omega)), isIn_n (by omega), bS]
    unfold fX3_digested
    cases hb : bt c i
    · rw [isF, if_pos rfl, bS, nI_1, if_neg (by decide)]
    · rw [if_pos rfl, if_neg n10, bS, bS, nI_1, if_pos rfl]
theorem dterm_n {X S : St} {T N K k : Nat} {cv : Nat → Int32} (hI : XI X T N K) (hcv : CV X N K cv) (hk : k < K) (e : ∀ a, a ≠ 10 → a ≠ 11 → S a = X a) (a : Int64) : ∃ S', fX3_digestedTerm S a (nI k) = some (dgK X T N cv k a, S') ∧ ∀ a, a ≠ 10 → a ≠ 11 → S' a = X a := by
  have hIS := xi_x hI e
  obtain ⟨s, hs, hc, hl⟩ := hcv k hk
  have hT := hI.1
  have hN := hI.2.1
  have hK := hI.2.2.1
  have e1 := e 1 (by decide) (by decide)
  have e9 := e 9 (by decide) (by decide)
  obtain ⟨S', u1, u2⟩ := covX (c := cv k) (s := s) hIS hk hs (by rw [e1, e9]; exact hc) (by rw [e1, e9]; exact hl)
  have eS : ∀ a, a ≠ 10 → a ≠ 11 → S' a = X a := fun a h1 h2 => by rw [u2 a h1 h2, e a h1 h2]
  have hIS' := xi_x hI eS
  have hv : vv S' = vv X := by
    funext d
    unfold vv
    rw [eS 2 (by decide) (by decide)]
  have hsh : shr S' (X 9 k) N = shr X (X 9 k) N := by
    unfold shr
    rw [eS 1 (by decide) (by decide)]
  refine ⟨S', ?_, eS⟩
  unfold fX3_digestedTerm fX3_digested
  rw [ld_n (by omega) (by omega), bS, u1, bS, pr_i, bitCount_n, bS, bS, mostVividOf_n hIS'.2.2.2.2.1 hN hIS'.2.2.2.2.2.2.2.1, bS, bS, tagsShared_n hIS'.2.2.2.2.1 hN, bS, bitCount_n, bS, bS, bitCount_n, bS, bS, dterm_77 hIS'.2.2.2.2.1 hN, gc_T hT (fun i hi => cov_bits hI hc i hi), e9, hv, hsh]
  rfl
theorem x112 {X : St} {T N K : Nat} {cv : Nat → Int32} (hI : XI X T N K) (hcv : CV X N K cv) (a : Int64) : ∀ (d i n : Nat) (S : St), i + d = K → d < n → (∀ a, a ≠ 10 → a ≠ 11 → S a = X a) → ∃ S', fX3_digest_112 n S (fo (dgK X T N cv) a i) (nI i) = some (fo (dgK X T N cv) a K, S') ∧ ∀ a, a ≠ 10 → a ≠ 11 → S' a = X a := by
  have h15 := hI.2.2.2.2.2.1
  have hK := hI.2.2.1
  intro d
  induction d with
  | zero =>
    intro i n S h1 h2 e
    obtain ⟨n, rfl⟩ : ∃ k, n = k + 1 := ⟨n - 1, by omega⟩
    have : i = K := by omega
    subst this
    refine ⟨S, ?_, e⟩
    rw [fX3_digest_112, e 15 (by decide) (by decide), h15, if_pos (Int32.le_refl _)]
  | succ d ih =>
    intro i n S h1 h2 e
    obtain ⟨n, rfl⟩ : ∃ k, n = k + 1 := ⟨n - 1, by omega⟩
    obtain ⟨S1, q1, q2⟩ := dterm_n (k := i) hI hcv (by omega) e (fo (dgK X T N cv) a i)
    obtain ⟨S', w1, w2⟩ := ih (i + 1) n S1 (by omega) (by omega) q2
    refine ⟨S', ?_, w2⟩
    rw [fX3_digest_112, e 15 (by decide) (by decide), h15, if_neg (gL (by omega) (by omega)), q1, bS, pr_i, bS, nI_1]
    exact w1
/-! the model's -/
def DM (X S : St) (T N K : Nat) : Prop := XR X S T N K ∧ (∀ d, d < N → S 7 d = X 1 d) ∧ (∀ t, t < T → S 8 t = dhf (X 1) t N) ∧ ∀ k, k < K → S 9 k = X 9 k
theorem dm_o {X S S' : St} {T N K : Nat} (h : DM X S T N K) (e : ∀ a, a ≠ 15 → a ≠ 16 → S' a = S a) : DM X S' T N K := by
  refine ⟨xr_m h.1 (fun a ha => e a (by unfold mR at ha; omega) (by unfold mR at ha; omega)), ?_, ?_, ?_⟩
  · rw [e 7 (by decide) (by decide)]; exact h.2.1
  · rw [e 8 (by decide) (by decide)]; exact h.2.2.1
  · rw [e 9 (by decide) (by decide)]; exact h.2.2.2
theorem m97 {X S : St} {T N K : Nat} (hI : XI X T N K) (h : DM X S T N K) (a : Int64) : fX4_digest_97 100 S a 0 = fX4_digest_179 100 S (fo (dgT X T N) a T) 0 := by
  have hT := hI.1
  have htm := tt_m hI h.1
  refine loop100 (f := fun n a i => fX4_digest_97 n S a i) (st := fun i => fo (dgT X T N) a i) (T := T) (by omega) ?_ ?_
  · intro n
    show fX4_digest_97 (n + 1) S _ _ = _
    rw [fX4_digest_97, h.1.1, if_pos (Int32.le_refl _)]
  · intro n i hi
    show fX4_digest_97 (n + 1) S _ _ = fX4_digest_97 n S _ _
    rw [fX4_digest_97, h.1.1, if_neg (gL hi (by omega)), ld_n (by omega) (by omega), bS, bS, above_n hT htm hi, bS, many_n, bS, bS, tagsUnder_n h.1.1 htm hT (by omega), bS, bS, ld_n (by omega) (by omega), bS, many_n, bS, bS, bS, nI_1, h.1.2.2.2.2.1 i hi, ab_x h.1 hi, ctb_x h.1 i, h.2.2.1 i hi]
    rfl
theorem m239 {X S : St} {T N K d : Nat} {k : St → Int64 → Int32 → Option (Int64 × St)} (hI : XI X T N K) (h : DM X S T N K) (hd : d < N) (a : Int64) : fX4_digest_239 (nI d) k 100 S a 0 = k S (fo (dgS (X 0 d)) a T) (nI (d + 1)) := by
  have hT := hI.1
  have hN := hI.2.1
  refine loop100 (f := fun n a i => fX4_digest_239 (nI d) k n S a i) (st := fun i => fo (dgS (X 0 d)) a i) (T := T) (by omega) ?_ ?_
  · intro n
    show fX4_digest_239 (nI d) k (n + 1) S _ _ = _
    rw [fX4_digest_239, h.1.1, if_pos (Int32.le_refl _), bS, nI_1]
  · intro n i hi
    show fX4_digest_239 (nI d) k (n + 1) S _ _ = fX4_digest_239 (nI d) k n S _ _
    rw [fX4_digest_239, h.1.1, if_neg (gL hi (by omega)), ld_n (by omega) (by omega), bS, bS, bS, nI_1, (h.1.2.2.2.2.2.1 d hd).1, sh1 (by omega), t01]
    rfl
theorem m179 {X S : St} {T N K : Nat} (hI : XI X T N K) (h : DM X S T N K) (a : Int64) : fX4_digest_179 100 S a 0 = fX4_digest_283 100 S (fo (dgD X T) a N) 0 := by
  have hN := hI.2.1
  refine loop100 (f := fun n a i => fX4_digest_179 n S a i) (st := fun i => fo (dgD X T) a i) (T := N) (by omega) ?_ ?_
  · intro n
    show fX4_digest_179 (n + 1) S _ _ = _
    rw [fX4_digest_179, h.1.2.1, if_pos (Int32.le_refl _)]
  · intro n i hi
    show fX4_digest_179 (n + 1) S _ _ = fX4_digest_179 n S _ _
    rw [fX4_digest_179, h.1.2.1, if_neg (gL hi (by omega)), ld_n (by omega) (by omega), bS, many_n, bS, bS, ld_n (by omega) (by omega), bS, bS, ld_n (by omega) (by omega), bS, bS, m239 hI h hi, h.2.1 i hi, (h.1.2.2.2.2.2.1 i hi).2.1, (h.1.2.2.2.2.2.1 i hi).2.2]
    rfl
theorem m404 {S : St} {N : Nat} {x4 : Int32} {k : St → Int64 → Int32 → Option (Int64 × St)} (h12 : S 12 0 = nI N) (hN : N ≤ 24) (m : Int32) (a : Int64) : fX4_digest_404 x4 m k 100 S a 0 = k S (fo (dgS m) a N) (x4 + 1) := by
  refine loop100 (f := fun n a i => fX4_digest_404 x4 m k n S a i) (st := fun i => fo (dgS m) a i) (T := N) (by omega) ?_ ?_
  · intro n
    show fX4_digest_404 x4 m k (n + 1) S _ _ = _
    rw [fX4_digest_404, h12, if_pos (Int32.le_refl _), bS]
  · intro n i hi
    show fX4_digest_404 x4 m k (n + 1) S _ _ = fX4_digest_404 x4 m k n S _ _
    rw [fX4_digest_404, h12, if_neg (gL hi (by omega)), bS, bS, nI_1, sh1 (by omega), t01]
    rfl
theorem m366 {S : St} {T N : Nat} {x4 : Int32} {k : St → Int64 → Int32 → Option (Int64 × St)} (h11 : S 11 0 = nI T) (hT : T ≤ 16) (h12 : S 12 0 = nI N) (hN : N ≤ 24) (m c : Int32) (a : Int64) : fX4_digest_366 x4 m c k 100 S a 0 = k S (fo (dgS m) (fo (dgC c) a T) N) (x4 + 1) := by
  refine loop100 (f := fun n a i => fX4_digest_366 x4 m c k n S a i) (st := fun i => fo (dgC c) a i) (T := T) (by omega) ?_ ?_
  · intro n
    show fX4_digest_366 x4 m c k (n + 1) S _ _ = _
    rw [fX4_digest_366, h11, if_pos (Int32.le_refl _), m404 h12 hN]
  · intro n i hi
    show fX4_digest_366 x4 m c k (n + 1) S _ _ = fX4_digest_366 x4 m c k n S (if bt c i = true then _ else _) _
    rw [fX4_digest_366, h11, if_neg (gL hi (by omega)), is_n (by omega), bS]
    cases hb : bt c i
    · rw [isF, if_pos rfl, bS, nI_1, if_neg (by decide)]
    · rw [if_pos rfl, if_neg n10, bS, bS, nI_1, if_pos rfl]
theorem m283 {X : St} {T N K : Nat} {cv : Nat → Int32} (hI : XI X T N K) (hcv : CV X N K cv) (a : Int64) : ∀ (d i n : Nat) (S : St), i + d = K → d < n → DM X S T N K → ∃ S', fX4_digest_283 n S (fo (dgK X T N cv) a i) (nI i) = some (fo (dgK X T N cv) a K, S') ∧ ∀ a, a ≠ 15 → S' a = S a := by
  have hT := hI.1
  have hN := hI.2.1
  have hK := hI.2.2.1
  intro d
  induction d with
  | zero =>
    intro i n S h1 h2 h
    obtain ⟨n, rfl⟩ : ∃ k, n = k + 1 := ⟨n - 1, by omega⟩
    have : i = K := by omega
    subst this
    refine ⟨S, ?_, fun _ _ => rfl⟩
    rw [fX4_digest_283, h.1.2.2.1, if_pos (Int32.le_refl _)]
  | succ d ih =>
    intro i n S h1 h2 h
    obtain ⟨n, rfl⟩ : ∃ k, n = k + 1 := ⟨n - 1, by omega⟩
    have hi : i < K := by omega
    obtain ⟨s, hs, hc, hl⟩ := hcv i hi
    obtain ⟨S1, w1, w2⟩ := covM (M := S) hI hi (gm_reck h.1 h.2.1 h.2.2.1) hs hc hl
    have h' : DM X S1 T N K := dm_o h (fun a h15 _ => w2 a h15)
    obtain ⟨S', q1, q2⟩ := ih (i + 1) n S1 (by omega) (by omega) h'
    refine ⟨S', ?_, fun a h15 => by rw [q2 a h15, w2 a h15]⟩
    have hv : ∀ d, d < N → S1 2 d = nI (vv X d) ∧ vv X d ≤ 9 := fun d hd => by rw [(h'.1.2.2.2.2.2.1 d hd).2.1]; exact vv_n hI.2.2.2.2.2.2.2.1 hd
    rw [fX4_digest_283, h.1.2.2.1, if_neg (gL hi (by omega)), ld_n (by omega) (by omega), bS, h.2.2.2 i hi, w1, bS, pr_i, many_n, bS, bS, brightest_n h'.1.2.1 hN hv, bS, bS, common_n hI h'.1.1 h'.1.2.1 h'.2.1 hi, bS, bS, many_n, bS, bS, m366 h'.1.1 hT h'.1.2.1 hN, nI_1]
    exact q1
theorem m64 {S : St} (a : Int64) : fX4_digest_64 5 100 S a 0 = fX4_digest_97 100 S (fo (fun i a => a * 31 + Int32.toInt64 (S 16 i)) a 5) 0 := by
  refine loop100 (f := fun n a i => fX4_digest_64 5 n S a i) (st := fun i => fo (fun i a => a * 31 + Int32.toInt64 (S 16 i)) a i) (T := 5) (by omega) ?_ ?_
  · intro n
    show fX4_digest_64 5 (n + 1) S _ _ = _
    rw [fX4_digest_64, if_pos (show (5 : Int32) ≤ nI 5 from Int32.le_refl _)]
  · intro n i hi
    show fX4_digest_64 5 (n + 1) S _ _ = fX4_digest_64 5 n S _ _
    rw [fX4_digest_64, if_neg (show ¬ (5 : Int32) ≤ nI i from nI_ge (b := 5) hi (by omega)), ld_n (by omega) (by omega), bS, bS, bS, nI_1]
    rfl
theorem op_digest {X M : St} (h : Rel X M) : ∃ r X1 M1, fX3_digest X = some (r, X1) ∧ fX4_digest M = some (r, M1) ∧ Rel X1 M1 := by
  obtain ⟨T, N, K, M0, e0, z0, hI, hR⟩ := rel_s h
  obtain ⟨Mr, q1, q7, q8, q9, qo, hRr⟩ := r_reck hI hR
  obtain ⟨cv, hcv⟩ := cv_ex hI
  obtain ⟨F, hF⟩ : ∃ F, F = nI (fdc (X 0) (X 2) N 0 N) := ⟨_, rfl⟩
  obtain ⟨Mz, hMz⟩ : ∃ z, z = up (up (up (up (up (z5 Mr) 16 0 (nI T)) 16 1 (nI N)) 16 2 (nI K)) 16 3 (X 13 0)) 16 4 F := ⟨_, rfl⟩
  have zo : ∀ a, a ≠ 16 → z5 Mr a = Mr a := fun a ha => if_neg ha
  have mo : ∀ a, a ≠ 16 → Mz a = Mr a := fun a ha => by rw [hMz, up_n ha, up_n ha, up_n ha, up_n ha, up_n ha, zo a ha]
  have hDr : DM X Mr T N K := ⟨hRr, q7, q8, q9⟩
  have hD : DM X Mz T N K := dm_o hDr (fun a _ h16 => mo a h16)
  obtain ⟨a0, ha0⟩ : ∃ a : Int64, a = ((((1867 * 31 + Int32.toInt64 (nI T)) * 31 + Int32.toInt64 (nI N)) * 31 + Int32.toInt64 (nI K)) * 31 + Int32.toInt64 (X 13 0)) * 31 + Int32.toInt64 F := ⟨_, rfl⟩
  obtain ⟨a1, ha1⟩ : ∃ a : Int64, a = fo (dgD X T) (fo (dgT X T N) a0 T) N := ⟨_, rfl⟩
  obtain ⟨X1, x1, x2⟩ := x112 hI hcv a1 K 0 100 X (by omega) (by have := hI.2.2.1; omega) (fun _ _ _ => rfl)
  obtain ⟨M1, y1, y2⟩ := m283 hI hcv a1 K 0 100 Mz (by omega) (by have := hI.2.2.1; omega) hD
  have hD1 : DM X M1 T N K := dm_o hD (fun a h15 _ => y2 a h15)
  rw [nI_0] at x1 y1
  have x1' : fX3_digest_112 100 X a1 0 = some (fo (dgK X T N cv) a1 K, X1) := x1
  have y1' : fX4_digest_283 100 Mz a1 0 = some (fo (dgK X T N cv) a1 K, M1) := y1
  refine ⟨fo (dgK X T N cv) a1 K, X1, M1, ?_, ?_, rel_of (xi_x hI x2) (xr_x hD1.1 x2)⟩
  · unfold fX3_digest fX3_digested
    rw [hI.2.2.2.1, hI.2.2.2.2.1, hI.2.2.2.2.2.1, bS, bS, bS, bS, countFaded_n hI.2.2.2.2.1 hI.2.1, bS, bS, ← hF, ← ha0, x63 hI, x89 hI, ← ha1, x1']
  · have s16 : ∀ (S : St) (i : Nat) (v : Int32), i < 5 → sto S 16 5 (nI i) v = some (up S 16 i v) := fun S i v hi => sto_n hi (by omega)
    have p0 : ∀ (S : St) (v : Int32), sto S 16 5 0 v = some (up S 16 0 v) := fun S v => s16 S 0 v (by omega)
    have p1 : ∀ (S : St) (v : Int32), sto S 16 5 1 v = some (up S 16 1 v) := fun S v => s16 S 1 v (by omega)
    have p2 : ∀ (S : St) (v : Int32), sto S 16 5 2 v = some (up S 16 2 v) := fun S v => s16 S 2 v (by omega)
    have p3 : ∀ (S : St) (v : Int32), sto S 16 5 3 v = some (up S 16 3 v) := fun S v => s16 S 3 v (by omega)
    have p4 : ∀ (S : St) (v : Int32), sto S 16 5 4 v = some (up S 16 4 v) := fun S v => s16 S 4 v (by omega)
    unfold fX4_digest
    rw [← e0, bS, q1, bS, bS, zo 11 (by decide), hRr.1, p0, bS, up_n (a := 12) (k := 16) (by decide), zo 12 (by decide), hRr.2.1, p1, bS, up_n (a := 13) (k := 16) (by decide), up_n (a := 13) (k := 16) (by decide), zo 13 (by decide), hRr.2.2.1, p2, bS, up_n (a := 14) (k := 16) (by decide), up_n (a := 14) (k := 16) (by decide), up_n (a := 14) (k := 16) (by decide), zo 14 (by decide), hRr.2.2.2.1, p3, bS]
    have hf : fX4_faded (up (up (up (up (z5 Mr) 16 0 (nI T)) 16 1 (nI N)) 16 2 (nI K)) 16 3 (X 13 0)) 0 = some F := by
      rw [hF]
      exact fd_x hI (xr_m hRr (fun a ha => by
        have h16 : a ≠ 16 := by unfold mR at ha; omega
        rw [up_n h16, up_n h16, up_n h16, up_n h16, zo a h16])) 0
    rw [hf, bS, p4, bS, ← hMz, m64]
    have r16 : fo (fun i a => a * 31 + Int32.toInt64 (Mz 16 i)) 1867 5 = a0 := by
      have w0 : Mz 16 0 = nI T := by rw [hMz, up_sn (by decide), up_sn (by decide), up_sn (by decide), up_sn (by decide), up_ss]
      have w1 : Mz 16 1 = nI N := by rw [hMz, up_sn (by decide), up_sn (by decide), up_sn (by decide), up_ss]
      have w2 : Mz 16 2 = nI K := by rw [hMz, up_sn (by decide), up_sn (by decide), up_ss]
      have w3 : Mz 16 3 = X 13 0 := by rw [hMz, up_sn (by decide), up_ss]
      have w4 : Mz 16 4 = F := by rw [hMz, up_ss]
      show ((((1867 * 31 + Int32.toInt64 (Mz 16 0)) * 31 + Int32.toInt64 (Mz 16 1)) * 31 + Int32.toInt64 (Mz 16 2)) * 31 + Int32.toInt64 (Mz 16 3)) * 31 + Int32.toInt64 (Mz 16 4) = a0
      rw [w0, w1, w2, w3, w4, ha0]
    rw [r16, m97 hI hD, m179 hI hD, ← ha1, y1']
