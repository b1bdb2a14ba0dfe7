/-! THE PROPERTY: facts of tags, dreams, covers -/
theorem cnt_or_le (x y : Int32) : cnt (x ||| y) ≤ cnt x + cnt y := by
  unfold cnt
  have key : ∀ n, fb_ct (bt (x ||| y)) n ≤ fb_ct (bt x) n + fb_ct (bt y) n := by
    intro n
    induction n with
    | zero => exact Nat.zero_le _
    | succ n ih =>
      rw [fb_ct_succ, fb_ct_succ, fb_ct_succ, b_or]
      cases bt x n <;> cases bt y n <;> simp <;> omega
  exact key 32
theorem low_spec (m : Int32) (c : Nat → Nat) : ∀ n, (low m c n = none → ∀ i, i < n → bt m i = false) ∧ ∀ j, low m c n = some j → j < n ∧ bt m j = true ∧ ∀ i, i < n → bt m i = true → c i ≤ c j := by
  intro n
  induction n with
  | zero => exact ⟨fun _ i hi => absurd hi (Nat.not_lt_zero _), fun j h => by cases h⟩
  | succ n ih =>
    obtain ⟨ih1, ih2⟩ := ih
    unfold low
    cases hb : bt m n
    · rw [if_neg (by decide)]
      refine ⟨fun h i hi => ?_, fun j h => ?_⟩
      · by_cases e : i = n
        · rw [e, hb]
        · exact ih1 h i (by omega)
      · obtain ⟨h1, h2, h3⟩ := ih2 j h
        refine ⟨by omega, h2, fun i hi hm => ?_⟩
        by_cases e : i = n
        · rw [e, hb] at hm
          cases hm
        · exact h3 i (by omega) hm
    · rw [if_pos rfl]
      cases hl : low m c n with
      | none =>
        have h0 := ih1 hl
        refine ⟨fun h => (by cases h), fun j h => ?_⟩
        have h : some n = some j := h
        cases h
        refine ⟨by omega, hb, fun i hi hm => ?_⟩
        by_cases e : i = n
        · rw [e]; exact Nat.le_refl _
        · rw [h0 i (by omega)] at hm
          cases hm
      | some k =>
        obtain ⟨h1, h2, h3⟩ := ih2 k hl
        refine ⟨fun h => ?_, fun j h => ?_⟩
        · have h : (if c n ≤ c k then some k else some n) = none := h
          split at h <;> cases h
        have h : (if c n ≤ c k then some k else some n) = some j := h
        by_cases hc : c n ≤ c k
        · rw [if_pos hc] at h
          cases h
          refine ⟨by omega, h2, fun i hi hm => ?_⟩
          by_cases e : i = n
          · rw [e]; exact hc
          · exact h3 i (by omega) hm
        · rw [if_neg hc] at h
          cases h
          refine ⟨by omega, hb, fun i hi hm => ?_⟩
          by_cases e : i = n
          · rw [e]; exact Nat.le_refl _
          · have := h3 i (by omega) hm
            omega
theorem sm_0 : ∀ n, sm (fun _ => 0) n = 0
  | 0 => rfl
  | n + 1 => by
    show sm (fun _ => 0) n + 0 = 0
    rw [sm_0 n]
theorem sm_add (f g : Nat → Nat) : ∀ n, sm (fun i => f i + g i) n = sm f n + sm g n
  | 0 => rfl
  | n + 1 => by
    show sm (fun i => f i + g i) n + (f n + g n) = (sm f n + f n) + (sm g n + g n)
    rw [sm_add f g n]
    omega
theorem sm_ct (p : Nat → Bool) : ∀ n, sm (fun i => if p i then 1 else 0) n = fb_ct p n
  | 0 => rfl
  | n + 1 => by
    show sm (fun i => if p i then 1 else 0) n + (if p n then 1 else 0) = _
    rw [sm_ct p n, fb_ct_succ]
/-- counted by rows and by columns -/
theorem sm_swap (P : Nat → Nat → Bool) (n : Nat) : ∀ m, sm (fun t => fb_ct (P t) n) m = sm (fun o => fb_ct (fun t => P t o) m) n
  | 0 => by
    show 0 = sm (fun _ => 0) n
    rw [sm_0]
  | m + 1 => by
    show sm (fun t => fb_ct (P t) n) m + fb_ct (P m) n = sm (fun o => fb_ct (fun t => P t o) m + (if P m o then 1 else 0)) n
    rw [sm_add, sm_swap P n m, sm_ct]
theorem sm_congr {f g : Nat → Nat} : ∀ n, (∀ i, i < n → f i = g i) → sm f n = sm g n
  | 0, _ => rfl
  | n + 1, h => by
    show sm f n + f n = sm g n + g n
    rw [sm_congr n (fun i hi => h i (by omega)), h n (by omega)]
/-- a cover of a size is found -/
theorem cx_full {v : Nat → Int32} : ∀ (r s : Nat) (o C : Int32), r ≤ 16 → (∀ i, bt C i = true → 16 - r ≤ i ∧ i < 16) → cnt C ≤ s → (∀ d, bt o d = true → ∃ i, bt C i = true ∧ bt (v i) d = true) → ∃ c, cx v r s o = some c := by
  intro r
  induction r with
  | zero =>
    intro s o C hr hC hs ho
    by_cases h0 : o = 0
    · rw [h0, cx_0]
      exact ⟨0, rfl⟩
    · obtain ⟨d, hd⟩ := bt_ne0.mp h0
      obtain ⟨i, h1, -⟩ := ho d hd
      have := hC i h1
      omega
  | succ r ih =>
    intro s o C hr hC hs ho
    by_cases h0 : o = 0
    · rw [h0, cx_0]
      exact ⟨0, rfl⟩
    · cases s with
      | zero =>
        exfalso
        obtain ⟨d, hd⟩ := bt_ne0.mp h0
        obtain ⟨i, h1, -⟩ := ho d hd
        have := cnt_pos (x := C) (bt_ne0.mpr ⟨i, h1⟩)
        omega
      | succ s =>
        have hC' : ∀ i, bt (C &&& (sb (15 - r) ^^^ (-1))) i = (bt C i && !decide (i = 15 - r)) := fun i => by rw [b_an, bt_sb (by omega)]
        by_cases h2 : o &&& v (15 - r) = 0
        · rw [cx_s1 v r s h0 h2]
          refine ih (s + 1) o (C &&& (sb (15 - r) ^^^ (-1))) (by omega) (fun i hi => ?_) (Nat.le_trans (cnt_sub (fun i hi => ?_)) hs) (fun d hd => ?_)
          · rw [hC'] at hi
            obtain ⟨k1, k2⟩ := (Bool.and_eq_true _ _).mp hi
            have := hC i k1
            have : i ≠ 15 - r := fun q => by rw [q] at k2; simp at k2
            omega
          · rw [hC'] at hi
            exact ((Bool.and_eq_true _ _).mp hi).1
          · obtain ⟨i, k1, k2⟩ := ho d hd
            refine ⟨i, ?_, k2⟩
            rw [hC', k1, decide_eq_false (fun q => by
              have : bt (o &&& v (15 - r)) d = true := by rw [b_and, hd, ← q, k2]; rfl
              rw [h2, b_0] at this
              cases this)]
            rfl
        · rw [cx_s2 v r s h0 h2]
          by_cases ht : bt C (15 - r) = true
          · obtain ⟨c, hc⟩ := ih s (o &&& (v (15 - r) ^^^ (-1))) (C &&& (sb (15 - r) ^^^ (-1))) (by omega) (fun i hi => by
              rw [hC'] at hi
              obtain ⟨k1, k2⟩ := (Bool.and_eq_true _ _).mp hi
              have := hC i k1
              have : i ≠ 15 - r := fun q => by rw [q] at k2; simp at k2
              omega) (by
              have e : C = (C &&& (sb (15 - r) ^^^ (-1))) ||| sb (15 - r) := bext fun i => by
                rw [b_or, hC', bt_sb (by omega)]
                by_cases q : i = 15 - r
                · rw [q, ht, decide_eq_true rfl]
                  rfl
                · rw [decide_eq_false q]
                  simp
              have h3 : cnt C = cnt (C &&& (sb (15 - r) ^^^ (-1))) + 1 := by
                rw [← cnt_sb (t := 15 - r) (by omega), ← cnt_or (fun i hi => by
                  obtain ⟨k1, k2⟩ := hi
                  rw [bt_sb (by omega)] at k2
                  have : i = 15 - r := of_decide_eq_true k2
                  rw [hC', this] at k1
                  simp at k1), ← e]
              omega) (fun d hd => by
              rw [b_an] at hd
              obtain ⟨k1, k2⟩ := (Bool.and_eq_true _ _).mp hd
              obtain ⟨i, k3, k4⟩ := ho d k1
              refine ⟨i, ?_, k4⟩
              rw [hC', k3, decide_eq_false (fun q => by rw [← q, k4] at k2; simp at k2)]
              rfl)
            rw [hc]
            exact ⟨_, rfl⟩
          · obtain ⟨c, hc⟩ := ih (s + 1) o C (by omega) (fun i hi => by
              have := hC i hi
              have : i ≠ 15 - r := fun q => ht (by rw [← q]; exact hi)
              omega) hs ho
            cases hq : cx v r s (o &&& (v (15 - r) ^^^ (-1))) with
            | some c' => exact ⟨_, rfl⟩
            | none => exact ⟨c, hc⟩
section FACTS
variable {X : St} {T N K : Nat}
theorem tt_par (hI : XI X T N K) {t : Nat} (ht : t < T) : (X 4 t = -1 ∧ cnt (AB X t) = 0) ∨ ∃ p, p < T ∧ X 4 t = nI p ∧ AB X t = X 5 p ∧ cnt (AB X t) = cnt (AB X p) + 1 := by
  have hXT := hI.2.2.2.2.2.2.1
  rcases tt_c hXT hI.1 ht with ⟨h0, h1⟩ | ⟨p, hp, h0, h1, -⟩
  · exact Or.inl ⟨h0, by unfold AB; rw [h1]; exact cnt_0⟩
  · exact Or.inr ⟨p, hp, h0, h1, by unfold AB; rw [h1]; exact tt_rank hXT hI.1 hp⟩
/-- a dream with a tag has those above it -/
theorem has_up (hI : XI X T N K) {d t p : Nat} (hd : d < N) (h : bt (X 1 d) t = true) (hp : bt (X 5 t) p = true) : bt (X 1 d) p = true := by
  have hXT := hI.2.2.2.2.2.2.1
  have hXD := hI.2.2.2.2.2.2.2.1
  rw [hXD.2.2.2 d hd, lnsf_b] at h ⊢
  obtain ⟨i, h1, h2, h3⟩ := h
  exact ⟨i, h1, h2, tt_trans hXT hI.1 h1 h3 hp⟩
theorem own_has (hI : XI X T N K) {d t : Nat} (hd : d < N) (h : bt (X 0 d) t = true) : bt (X 1 d) t = true := by
  have hXT := hI.2.2.2.2.2.2.1
  have hXD := hI.2.2.2.2.2.2.2.1
  have ht := hXD.2.1 d hd t h
  rw [hXD.2.2.2 d hd, lnsf_b]
  exact ⟨t, ht, h, tt_self hXT hI.1 ht⟩
theorem has_iff (hI : XI X T N K) {d t : Nat} (hd : d < N) (ht : t < T) : bt (X 1 d) t = (bt (X 0 d) t || decide (0 < fb_ct (fun o => bt (X 0 d) o && bt (AB X o) t) T)) := by
  have hXT := hI.2.2.2.2.2.2.1
  have hXD := hI.2.2.2.2.2.2.2.1
  apply Bool.eq_iff_iff.mpr
  rw [hXD.2.2.2 d hd, lnsf_b, Bool.or_eq_true, decide_eq_true_iff, fb_ct_pos]
  constructor
  · rintro ⟨i, h1, h2, h3⟩
    rw [tt_b hXT hI.1 h1] at h3
    rcases (Bool.or_eq_true _ _).mp h3 with h3 | h3
    · have : t = i := of_decide_eq_true h3
      subst this
      exact Or.inl h2
    · exact Or.inr ⟨i, h1, (Bool.and_eq_true _ _).mpr ⟨h2, h3⟩⟩
  · rintro (h | ⟨i, h1, h2⟩)
    · exact ⟨t, ht, h, tt_self hXT hI.1 ht⟩
    · obtain ⟨h3, h4⟩ := (Bool.and_eq_true _ _).mp h2
      exact ⟨i, h1, h3, by rw [tt_b hXT hI.1 h1, Bool.or_eq_true]; exact Or.inr h4⟩
theorem with_le (hI : XI X T N K) {t p : Nat} (hp : bt (X 5 t) p = true) : fb_ct (fun d => bt (X 1 d) t) N ≤ fb_ct (fun d => bt (X 1 d) p) N :=
  fb_ct_sub (fun d hd h => has_up hI hd h hp)
/-- the nearest tag above two -/
theorem near_in (hI : XI X T N K) {t u j : Nat} (ht : t < T) (hj : low (X 5 t &&& X 5 u) (fun i => cnt (AB X i)) T = some j) : j < T ∧ (j = t ∨ bt (AB X t) j = true) := by
  have hXT := hI.2.2.2.2.2.2.1
  obtain ⟨h1, h2, -⟩ := (low_spec _ _ T).2 j hj
  rw [b_and] at h2
  have h3 := ((Bool.and_eq_true _ _).mp h2).1
  rw [tt_b hXT hI.1 ht] at h3
  refine ⟨h1, ?_⟩
  rcases (Bool.or_eq_true _ _).mp h3 with h3 | h3
  · exact Or.inl (of_decide_eq_true h3)
  · exact Or.inr h3
theorem near_is (hI : XI X T N K) {t u : Nat} (ht : t < T) (hu : u < T) (h : bt (AB X t) u = true) : low (X 5 t &&& X 5 u) (fun i => cnt (AB X i)) T = some u := by
  have hXT := hI.2.2.2.2.2.2.1
  have hT := hI.1
  have hm : bt (X 5 t &&& X 5 u) u = true := by
    rw [b_and, tt_self hXT hT hu, tt_b hXT hT ht, h, Bool.or_true]
    rfl
  cases hl : low (X 5 t &&& X 5 u) (fun i => cnt (AB X i)) T with
  | none =>
    have := (low_spec _ _ T).1 hl u hu
    rw [hm] at this
    cases this
  | some j =>
    obtain ⟨h1, h2, h3⟩ := (low_spec _ _ T).2 j hl
    have h4 := h3 u hu hm
    rw [b_and] at h2
    have h5 := ((Bool.and_eq_true _ _).mp h2).2
    by_cases e : j = u
    · rw [e]
    · exfalso
      have h6 : cnt (X 5 j) ≤ cnt (AB X u) := cnt_sub (fun i hi => by
        have h7 := tt_trans hXT hT hu h5 hi
        rw [tt_b hXT hT hu] at h7
        rcases (Bool.or_eq_true _ _).mp h7 with h7 | h7
        · have h8 : i = u := of_decide_eq_true h7
          rw [h8] at hi
          exact absurd (tt_anti hXT hT hu h5 hi) e
        · exact h7)
      have h7 := tt_rank hXT hT h1
      have h4 : cnt (AB X u) ≤ cnt (AB X j) := h4
      have h7 : cnt (X 5 j) = cnt (AB X j) + 1 := h7
      omega
/-- how great a smallest cover is -/
theorem cover_le (hI : XI X T N K) {k s : Nat} {c : Int32} (hk : k < K) (hc : cx (fun t => dhf (X 1) t N) 16 s (X 9 k) = some c) (hl : ∀ i, i < s → cx (fun t => dhf (X 1) t N) 16 i (X 9 k) = none) : cnt c ≤ cnt (X 9 k) ∧ (cnt c = 0 ↔ cnt (X 9 k) = 0) ∧ (0 < cnt (shr X (X 9 k) N) → cnt c ≤ 1) := by
  have hN := hI.2.1
  have hT := hI.1
  have hXD := hI.2.2.2.2.2.2.2.1
  obtain ⟨s1, s2, s3⟩ := cx_sound 16 s _ c (Nat.le_refl _) hc
  have hmin : ∀ C : Int32, (∀ i, bt C i = true → i < 16) → (∀ d, bt (X 9 k) d = true → ∃ i, bt C i = true ∧ bt (dhf (X 1) i N) d = true) → cnt c ≤ cnt C := fun C hC hcov => by
    rcases Nat.lt_or_ge (cnt C) s with q | q
    · obtain ⟨c', hc'⟩ := cx_full (v := fun t => dhf (X 1) t N) 16 (cnt C) (X 9 k) C (Nat.le_refl _) (fun i hi => ⟨by omega, hC i hi⟩) (Nat.le_refl _) hcov
      rw [hl _ q] at hc'
      cases hc'
    · omega
  have hb : ∀ i d, d < N → bt (X 1 d) i = true → bt (dhf (X 1) i N) d = true := fun i d hd h => (dhf_b d N (by omega)).mpr ⟨hd, h⟩
  have h1 : cnt c ≤ cnt (X 9 k) := by
    have key : ∀ n, n ≤ N → ∃ C : Int32, (∀ i, bt C i = true → i < 16) ∧ cnt C ≤ fb_ct (bt (X 9 k)) n ∧ ∀ d, d < n → bt (X 9 k) d = true → ∃ i, bt C i = true ∧ bt (dhf (X 1) i N) d = true := by
      intro n
      induction n with
      | zero => exact fun _ => ⟨0, fun i hi => b0x hi, by rw [cnt_0]; exact Nat.zero_le _, fun d hd => absurd hd (Nat.not_lt_zero _)⟩
      | succ n ih =>
        intro hn
        obtain ⟨C, q1, q2, q3⟩ := ih (by omega)
        rw [fb_ct_succ]
        cases hb9 : bt (X 9 k) n
        · refine ⟨C, q1, by simpa using q2, fun d hd h => ?_⟩
          by_cases e : d = n
          · rw [e, hb9] at h
            cases h
          · exact q3 d (by omega) h
        · obtain ⟨i, hi⟩ := bt_ne0.mp (hXD.1 n (by omega))
          have hi1 := own_has hI (show n < N by omega) hi
          have hiT := hXD.2.1 n (by omega) i hi
          refine ⟨C ||| sb i, fun j hj => ?_, ?_, fun d hd h => ?_⟩
          · rw [b_or, bt_sb (by omega)] at hj
            rcases (Bool.or_eq_true _ _).mp hj with hj | hj
            · exact q1 j hj
            · have : j = i := of_decide_eq_true hj
              omega
          · have := cnt_or_le C (sb i)
            rw [cnt_sb (by omega)] at this
            simp
            omega
          · by_cases e : d = n
            · subst e
              exact ⟨i, by rw [b_or, bt_sb (by omega), decide_eq_true rfl, Bool.or_true], hb i d (by omega) hi1⟩
            · obtain ⟨j, k1, k2⟩ := q3 d (by omega) h
              exact ⟨j, by rw [b_or, k1]; rfl, k2⟩
    obtain ⟨C, q1, q2, q3⟩ := key N (Nat.le_refl _)
    have := hmin C q1 (fun d hd => q3 d (xi_sub hI hk d hd) hd)
    have h2 : cnt (X 9 k) = fb_ct (bt (X 9 k)) N := cntT (by omega) (xi_sub hI hk)
    omega
  refine ⟨h1, ⟨fun q => ?_, fun q => by omega⟩, fun hp => ?_⟩
  · rcases Nat.eq_zero_or_pos (cnt (X 9 k)) with w | w
    · exact w
    · exfalso
      obtain ⟨d, hd⟩ : ∃ d, bt (X 9 k) d = true := by
        obtain ⟨d, -, hd⟩ := fb_ct_pos.mp w
        exact ⟨d, hd⟩
      obtain ⟨i, k1, -⟩ := s3 d hd
      have := cnt_pos (x := c) (bt_ne0.mpr ⟨i, k1⟩)
      omega
  · obtain ⟨j, -, hj⟩ := fb_ct_pos.mp hp
    unfold shr at hj
    by_cases h0 : X 9 k = 0
    · rw [if_pos h0] at hj
      have := ((cmn_b j N).mp hj).1
      exact b0x this
    · rw [if_neg h0] at hj
      obtain ⟨j1, j2⟩ := (cmn_b j N).mp hj
      rw [b_65535] at j1
      have j1 := of_decide_eq_true j1
      have := hmin (sb j) (fun i hi => by
        rw [bt_sb (by omega)] at hi
        have : i = j := of_decide_eq_true hi
        omega) (fun d hd => ⟨j, by rw [bt_sb (by omega)]; exact decide_eq_true rfl, hb j d (xi_sub hI hk d hd) (j2 d (xi_sub hI hk d hd) hd)⟩)
      rw [cnt_sb (by omega)] at this
      exact this
theorem common_le (hI : XI X T N K) {k d : Nat} (hd : d < N) (hm : bt (X 9 k) d = true) : cnt (shr X (X 9 k) N) ≤ cnt (X 1 d) := by
  refine cnt_sub (fun j hj => ?_)
  unfold shr at hj
  split at hj
  · rename_i h0
    rw [h0, b_0] at hm
    cases hm
  · exact ((cmn_b j N).mp hj).2 d hd hm
theorem va_0 (hI : XI X T N K) {d : Nat} (hd : d < N) : va (X 0) (X 2) N d 0 = X 2 d := by
  obtain ⟨v, hv, e⟩ := hI.2.2.2.2.2.2.2.1.2.2.1 d hd
  unfold va
  split
  · rw [e]
    exact nI_sub2 (a := v) (b := 0) (by omega) (by omega)
  · rfl
end FACTS
