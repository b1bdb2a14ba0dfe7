/-! READING: the parent, the most vivid, the shared, the faded, the mean -/
theorem op_parentOf {X M : St} (a1 : Int32) (h : Rel X M) : ∃ R r M1, fX3_parentOf X a1 = some R ∧ fX4_parentOf M a1 = some (r, M1) ∧ AgR [IOB, ISE] X R r M1 := by
  obtain ⟨T, N, K, M0, e0, z0, hI, hR⟩ := rel_s h
  have hI' := hI
  obtain ⟨hT, hN, hK, h14, h12, h15, hXT, hXD, hXK, hXM⟩ := hI
  rcases g_tag h14 hR.1 hT a1 with ⟨g0, m0⟩ | ⟨t, ht, rfl, g0, m0⟩
  · exact ⟨Sum.inl IOB, 0, up M0 10 0 1, by unfold fX3_parentOf fX3_requireParent; rw [g0]; rfl, by unfold fX4_parentOf; rw [← e0, bS, m0]; rfl, agR_no (by decide) (by decide) hI' hR⟩
  · have l4 : ld X 4 16 (nI t) = some (X 4 t) := ld_n (by omega) (by omega)
    have l0 : ld M0 0 16 (nI t) = some (X 4 t) := by rw [ld_n (by omega) (by omega), hR.2.2.2.2.1 t ht]
    by_cases q : X 4 t = -1
    · refine ⟨Sum.inl ISE, 0, up M0 10 0 2, ?_, ?_, agR_no (by decide) (by decide) hI' hR⟩
      · unfold fX3_parentOf fX3_requireParent
        rw [g0, bS, xb_i, l4, bS, if_pos q]
        rfl
      · unfold fX4_parentOf
        rw [← e0, bS, m0, bS, if_neg n10, l0, bS, if_pos q]
        rfl
    · refine ⟨Sum.inr (X 4 t), X 4 t, M0, ?_, ?_, agR_ok (rel_of hI' hR) z0⟩
      · unfold fX3_parentOf fX3_requireParent
        rw [g0, bS, xb_i, l4, bS, if_neg q, bS, xb_i, bS]
      · unfold fX4_parentOf
        rw [← e0, bS, m0, bS, if_neg n10, l0, bS, if_neg q, bS]
def vv (X : St) (d : Nat) : Nat := (X 2 d).toNatClampNeg
theorem vv_n {X : St} {T N : Nat} (h : XD X T N) {d : Nat} (hd : d < N) : X 2 d = nI (vv X d) ∧ vv X d ≤ 9 := by
  obtain ⟨v, hv, e⟩ := h.2.2.1 d hd
  have : vv X d = v := by unfold vv; rw [e, nI_clamp (by omega)]
  rw [this]
  exact ⟨e, hv⟩
theorem mostVividOf_n {X : St} {T N : Nat} (h12 : X 12 0 = nI N) (hN : N ≤ 24) (h : XD X T N) (m : Int32) : fX3_mostVividOf X m = some (oI (low m (vv X) N)) := by
  unfold fX3_mostVividOf
  refine loop100 (f := fun n (p : Int32 × Int32) i => fX3_mostVividOf_7 X m n p.1 p.2 i) (st := fun i => (oI (low m (vv X) i), oC (vv X) (low m (vv X) i))) (T := N) (by omega) ?_ ?_
  · intro n
    show fX3_mostVividOf_7 X m (n + 1) _ _ _ = _
    rw [fX3_mostVividOf_7, h12, if_pos gT]
  · intro n i hi
    show fX3_mostVividOf_7 X m (n + 1) _ _ _ = fX3_mostVividOf_7 X m n _ _ _
    rw [fX3_mostVividOf_7, h12, if_neg (gL hi (by omega)), isIn_n (by omega), bS, low]
    obtain ⟨e1, e2⟩ := vv_n h hi
    cases hb : bt m i
    · rw [isF, if_pos rfl, if_neg (by decide), bS, nI_1]
    · rw [if_pos rfl, if_neg n10, if_pos rfl, ld_n (by omega) (by omega), bS, e1]
      cases hl : low m (vv X) i with
      | none =>
        have hn : ¬ nI (vv X i) ≤ -1 := by
          rw [Int32.le_iff_toInt_le, nI_toInt (by omega)]
          have : (-1 : Int32).toInt = -1 := by decide
          omega
        show (if nI (vv X i) ≤ -1 then _ else _) = _
        rw [if_neg hn, bS, bS, nI_1]
        rfl
      | some j =>
        have hj := low_lt _ _ _ _ hl
        obtain ⟨-, e4⟩ := vv_n h (show j < N by omega)
        show (if nI (vv X i) ≤ nI (vv X j) then _ else _) = _
        by_cases e : vv X i ≤ vv X j
        · rw [if_pos (nI_le e (by omega)), bS, nI_1]
          show _ = fX3_mostVividOf_7 X m n (oI (if _ then _ else _)) (oC _ (if _ then _ else _)) _
          rw [if_pos e]
        · rw [if_neg (nI_ge (by omega) (by omega)), bS, bS, nI_1]
          show _ = fX3_mostVividOf_7 X m n (oI (if _ then _ else _)) (oC _ (if _ then _ else _)) _
          rw [if_neg e]
          rfl
theorem brightest_n {M : St} {c : Nat → Nat} {N : Nat} (h12 : M 12 0 = nI N) (hN : N ≤ 24) (h : ∀ d, d < N → M 2 d = nI (c d) ∧ c d ≤ 9) (m : Int32) : fX4_brightest M m = some (oI (low m c N)) := by
  unfold fX4_brightest
  refine loop100 (f := fX4_brightest_4 M m) (st := fun i => oI (low m c i)) (T := N) (by omega) ?_ ?_
  · intro n
    rw [fX4_brightest_4, h12, if_pos gT]
  · intro n i hi
    rw [fX4_brightest_4, h12, if_neg (gL hi (by omega)), is_n (by omega), bS, low]
    unfold fX4_brightest_40
    obtain ⟨e1, e2⟩ := h i hi
    cases hb : bt m i
    · rw [isF, if_pos rfl, if_neg (by decide), bS, nI_1]
    · rw [if_pos rfl, if_neg n10, if_pos rfl]
      cases hl : low m c i with
      | none =>
        show (if (-1 : Int32) = -1 then _ else _) = _
        rw [if_pos rfl, bS, nI_1]
        rfl
      | some j =>
        have hj := low_lt _ _ _ _ hl
        obtain ⟨e3, e4⟩ := h j (by omega)
        show (if nI j = -1 then _ else _) = _
        rw [if_neg (nI_m1 (by omega)), ld_n (by omega) (by omega), bS, e1]
        show Option.bind (ld M 2 24 (nI j)) _ = _
        rw [ld_n (by omega) (by omega), bS, e3]
        by_cases e : c i ≤ c j
        · rw [if_pos (nI_le e (by omega)), bS, nI_1]
          show _ = fX4_brightest_4 M m n (oI (if _ then _ else _)) _
          rw [if_pos e]
        · rw [if_neg (nI_ge (by omega) (by omega)), bS, nI_1]
          show _ = fX4_brightest_4 M m n (oI (if _ then _ else _)) _
          rw [if_neg e]
          rfl
/-- what the terms match is dreams -/
theorem xm_sub {X : St} {T N K : Nat} (hN : N ≤ 24) (hT : T ≤ 16) (hK : K ≤ 20) (hk0 : XK0 X T K) (hm : XM X N K) : ∀ n k, k < n → k < K → ∀ i, bt (X 9 k) i = true → i < N := by
  intro n
  induction n with
  | zero => intro k hk; omega
  | succ n ih =>
    intro k hk hkK i hi
    rw [hm k hkK] at hi
    unfold mstep at hi
    rcases hk0 k hkK with ⟨h0, t, ht, e⟩ | ⟨h0, ⟨a, ha, ea⟩, b, hb, eb⟩ | ⟨h0, a, ha, ea⟩
    · rw [if_pos h0] at hi
      exact ((dhf_b i N (by omega)).mp hi).1
    · rcases h0 with h0 | h0
      · rw [h0, if_neg (by decide), if_pos rfl, ea, nI_clamp (by omega), b_and] at hi
        exact ih a (by omega) (by omega) i ((Bool.and_eq_true _ _).mp hi).1
      · rw [h0, if_neg (by decide), if_neg (by decide), if_pos rfl, ea, eb, nI_clamp (by omega), nI_clamp (by omega), b_or] at hi
        rcases (Bool.or_eq_true _ _).mp hi with hi | hi
        · exact ih a (by omega) (by omega) i hi
        · exact ih b (by omega) (by omega) i hi
    · rw [h0, if_neg (by decide), if_neg (by decide), if_neg (by decide), b_and, bt_allN (by omega)] at hi
      exact of_decide_eq_true ((Bool.and_eq_true _ _).mp hi).1
theorem xi_sub {X : St} {T N K : Nat} (hI : XI X T N K) {k : Nat} (hk : k < K) (i : Nat) (h : bt (X 9 k) i = true) : i < N := by
  obtain ⟨hT, hN, hK, h14, h12, h15, hXT, hXD, hXK, hXM⟩ := hI
  exact xm_sub hN hT hK hXK hXM (k + 1) k (Nat.lt_succ_self k) hk i h
theorem xi_has {X : St} {T N K : Nat} (hI : XI X T N K) {d : Nat} (hd : d < N) (i : Nat) (h : bt (X 1 d) i = true) : i < T := by
  obtain ⟨hT, hN, hK, h14, h12, h15, hXT, hXD, hXK, hXM⟩ := hI
  rw [hXD.2.2.2 d hd] at h
  obtain ⟨t, ht, -, h2⟩ := (lnsf_b i T).mp h
  exact hXT.2.2.2 t ht i h2
def cmn (s0 : Int32) (h : Nat → Int32) (m : Int32) : Nat → Int32
  | 0 => s0
  | i + 1 => if bt m i = true then cmn s0 h m i &&& h i else cmn s0 h m i
theorem cmn_b {s0 : Int32} {h : Nat → Int32} {m : Int32} (j : Nat) : ∀ n, bt (cmn s0 h m n) j = true ↔ bt s0 j = true ∧ ∀ i, i < n → bt m i = true → bt (h i) j = true := by
  intro n
  induction n with
  | zero =>
    constructor
    · intro q
      exact ⟨q, fun i hi => by omega⟩
    · rintro ⟨q, -⟩
      exact q
  | succ n ih =>
    unfold cmn
    constructor
    · intro q
      split at q
      · rename_i hb
        rw [b_and] at q
        obtain ⟨q1, q2⟩ := (Bool.and_eq_true _ _).mp q
        obtain ⟨q3, q4⟩ := ih.mp q1
        refine ⟨q3, fun i hi hbi => ?_⟩
        by_cases e : i = n
        · subst e
          exact q2
        · exact q4 i (by omega) hbi
      · rename_i hb
        obtain ⟨q3, q4⟩ := ih.mp q
        refine ⟨q3, fun i hi hbi => ?_⟩
        by_cases e : i = n
        · subst e
          exact absurd hbi hb
        · exact q4 i (by omega) hbi
    · rintro ⟨q1, q2⟩
      have q3 := ih.mpr ⟨q1, fun i hi => q2 i (by omega)⟩
      split
      · rename_i hb
        rw [b_and, q3, q2 n (by omega) hb]
        rfl
      · exact q3
theorem shared_13 {X : St} {N : Nat} (h12 : X 12 0 = nI N) (hN : N ≤ 24) (m s0 : Int32) : fX3_tagsSharedBy_13 X m 100 s0 0 = some (cmn s0 (X 1) m N) := by
  refine loop100 (f := fX3_tagsSharedBy_13 X m) (st := fun i => cmn s0 (X 1) m i) (T := N) (by omega) ?_ ?_
  · intro n
    rw [fX3_tagsSharedBy_13, h12, if_pos gT]
  · intro n i hi
    rw [fX3_tagsSharedBy_13, h12, if_neg (gL hi (by omega)), isIn_n (by omega), bS, cmn]
    cases hb : bt m i
    · rw [isF, if_pos rfl, if_neg (by decide), bS, nI_1]
    · rw [if_pos rfl, if_neg n10, if_pos rfl, ld_n (by omega) (by omega), bS, bS, bS, nI_1]
theorem common_19 {M : St} {N : Nat} (h12 : M 12 0 = nI N) (hN : N ≤ 24) (m s0 : Int32) : fX4_common_19 M m 100 s0 0 = some (nI (cnt (cmn s0 (M 7) m N))) := by
  refine loop100 (f := fX4_common_19 M m) (st := fun i => cmn s0 (M 7) m i) (T := N) (by omega) ?_ ?_
  · intro n
    rw [fX4_common_19, h12, if_pos gT, many_n, bS]
  · intro n i hi
    rw [fX4_common_19, h12, if_neg (gL hi (by omega)), is_n (by omega), bS, cmn]
    cases hb : bt m i
    · rw [isF, if_pos rfl, if_neg (by decide), bS, nI_1]
    · rw [if_pos rfl, if_neg n10, if_pos rfl, ld_n (by omega) (by omega), bS, bS, bS, nI_1]
/-- the tags that all of m have -/
def shr (X : St) (m : Int32) (N : Nat) : Int32 := if m = 0 then cmn 0 (X 1) m N else cmn 65535 (X 1) m N
theorem tagsShared_n {X : St} {N : Nat} (h12 : X 12 0 = nI N) (hN : N ≤ 24) (m : Int32) : fX3_tagsSharedBy X m = some (shr X m N) := by
  unfold fX3_tagsSharedBy shr
  split
  · exact shared_13 h12 hN m 0
  · exact shared_13 h12 hN m 65535
theorem common_n {X M : St} {T N K k : Nat} (hI : XI X T N K) (h11 : M 11 0 = nI T) (h12 : M 12 0 = nI N) (h7 : ∀ d, d < N → M 7 d = X 1 d) (hk : k < K) : fX4_common M (X 9 k) = some (nI (cnt (shr X (X 9 k) N))) := by
  have hN : N ≤ 24 := hI.2.1
  have hT : T ≤ 16 := hI.1
  have ex : ∀ {x y : Int32}, (∀ i, bt x i = true ↔ bt y i = true) → x = y := fun {x y} h => bext fun i => by
    have := h i
    cases h1 : bt x i <;> cases h2 : bt y i
    · rfl
    · rw [h1, h2] at this; exact absurd (this.mpr rfl) (by decide)
    · rw [h1, h2] at this; exact absurd (this.mp rfl) (by decide)
    · rfl
  unfold fX4_common shr
  split
  · rw [common_19 h12 hN]
    congr 3
    refine ex fun j => ?_
    rw [cmn_b, cmn_b]
    constructor <;> (rintro ⟨q1, -⟩; rw [b_0] at q1; cases q1)
  · rename_i hm
    obtain ⟨i0, hi0⟩ := bt_ne0.mp hm
    have hi1 := xi_sub hI hk i0 hi0
    rw [bS, common_19 h12 hN, h11]
    congr 3
    refine ex fun j => ?_
    rw [cmn_b, cmn_b]
    constructor
    · rintro ⟨q1, q2⟩
      have q3 := q2 i0 hi1 hi0
      rw [h7 i0 hi1] at q3
      have := xi_has hI hi1 j q3
      refine ⟨by rw [b_65535]; exact decide_eq_true (by omega), fun i hi hb => ?_⟩
      have := q2 i hi hb
      rwa [h7 i hi] at this
    · rintro ⟨q1, q2⟩
      have q3 := q2 i0 hi1 hi0
      have := xi_has hI hi1 j q3
      refine ⟨?_, fun i hi hb => by rw [h7 i hi]; exact q2 i hi hb⟩
      show bt (allN T) j = true
      rw [bt_allN (by omega)]
      exact decide_eq_true this
/-! vividness after some nights -/
def va (o v : Nat → Int32) (N d : Nat) (n : Int32) : Int32 := if o d &&& o (N - 1) = 0 then (if 0 < v d - n then v d - n else 0) else v d
theorem vivAfter_n {X : St} {N d : Nat} (h12 : X 12 0 = nI N) (hN : N ≤ 24) (hd : d < N) (n : Int32) : fX3_vividnessAfter X (nI d) n = some (va (X 0) (X 2) N d n) := by
  unfold fX3_vividnessAfter fX3_ownTagsOfLatest fX3_vividnessAfter_19 va
  obtain ⟨m, rfl⟩ : ∃ m, N = m + 1 := ⟨N - 1, by omega⟩
  rw [ld_n (by omega) (by omega), bS, h12, if_neg (nI_ne0 (by omega) (by omega)), nI_pred, ld_n (by omega) (by omega), bS, bS, ld_n (by omega) (by omega), Nat.add_sub_cancel]
  split
  · rw [if_pos rfl, bS, bS]
  · rw [if_neg n10, bS]
theorem later_n {M : St} {N d : Nat} (h12 : M 12 0 = nI N) (hN : N ≤ 24) (ho : M 1 d ≠ 0) (hd : d < N) (n : Int32) : fX4_later M (nI d) n = some (va (M 1) (M 2) N d n) := by
  unfold fX4_later fX4_later_31 fX4_later_36 va
  obtain ⟨m, rfl⟩ : ∃ m, N = m + 1 := ⟨N - 1, by omega⟩
  rw [h12, nI_pred, Nat.add_sub_cancel]
  by_cases e : d = m
  · subst e
    rw [if_pos rfl, if_neg n10, Int32.and_self, if_neg ho, ld_n (by omega) (by omega), bS]
  · rw [if_neg (fun q => e ((nI_eq (by omega) (by omega)).mp q)), ld_n (by omega) (by omega), bS, ld_n (by omega) (by omega), bS, ld_n (by omega) (by omega)]
    split
    · rw [if_pos rfl, bS, bS]
    · rw [if_neg n10, bS]
theorem nI_sub2 {a b : Nat} (ha : a < 2 ^ 20) (hb : b < 2 ^ 20) : (if 0 < nI a - nI b then nI a - nI b else 0) = nI (a - b) := by
  rcases Nat.lt_or_ge b a with h | h
  · have e : nI a - nI b = nI (a - b) := pk_sub (by omega)
    rw [e, if_pos (by
      have := nI_lt (a := 0) (b := a - b) (by omega) (by omega)
      exact this)]
  · have e : nI b - nI a = nI (b - a) := pk_sub h
    have e2 : ¬ 0 < nI a - nI b := by
      intro q
      have e3 : nI a - nI b = -(nI (b - a)) := by rw [← e, Int32.neg_sub]
      rw [e3, Int32.lt_iff_toInt_lt, Int32.toInt_neg, nI_toInt (by omega)] at q
      have : (0 : Int32).toInt = 0 := by decide
      rw [this] at q
      have h2 : (-((b - a : Nat) : Int)).bmod (2 ^ 32) = -((b - a : Nat) : Int) := Int.bmod_eq_of_le (by omega) (by omega)
      rw [h2] at q
      omega
    rw [if_neg e2, show a - b = 0 by omega]
    rfl
theorem va_n {o v : Nat → Int32} {N d n : Nat} (hv : ∃ w, w ≤ 9 ∧ v d = nI w) (hn : n ≤ 30) : ∃ w, w ≤ 9 ∧ va o v N d (nI n) = nI w := by
  obtain ⟨w, hw, e⟩ := hv
  unfold va
  split
  · rw [e, nI_sub2 (by omega) (by omega)]
    exact ⟨w - n, by omega, rfl⟩
  · exact ⟨w, hw, e⟩
def fdc (o v : Nat → Int32) (N : Nat) (n : Int32) : Nat → Nat := fb_ct (fun d => decide (va o v N d n = 0))
theorem countFaded_n {X : St} {N : Nat} (h12 : X 12 0 = nI N) (hN : N ≤ 24) (n : Int32) : fX3_countFadedAfter X n = some (nI (fdc (X 0) (X 2) N n N)) := by
  unfold fX3_countFadedAfter
  refine loop100 (f := fX3_countFadedAfter_4 X n) (st := fun i => nI (fdc (X 0) (X 2) N n i)) (T := N) (by omega) ?_ ?_
  · intro m
    rw [fX3_countFadedAfter_4, h12, if_pos gT]
  · intro m i hi
    rw [fX3_countFadedAfter_4, h12, if_neg (gL hi (by omega)), vivAfter_n h12 hN hi, bS]
    show _ = fX3_countFadedAfter_4 X n m (nI (fdc (X 0) (X 2) N n i + (if decide (va (X 0) (X 2) N i n = 0) = true then 1 else 0))) _
    by_cases e : va (X 0) (X 2) N i n = 0
    · rw [if_pos e, bS, bS, nI_1, nI_1, if_pos (decide_eq_true e)]
    · rw [if_neg e, bS, nI_1, if_neg (by rw [decide_eq_false e]; decide)]
      rfl
theorem faded_n {M : St} {N : Nat} (h12 : M 12 0 = nI N) (hN : N ≤ 24) (ho : ∀ d, d < N → M 1 d ≠ 0) (n : Int32) : fX4_faded M n = some (nI (fdc (M 1) (M 2) N n N)) := by
  unfold fX4_faded
  refine loop100 (f := fX4_faded_4 M n) (st := fun i => nI (fdc (M 1) (M 2) N n i)) (T := N) (by omega) ?_ ?_
  · intro m
    rw [fX4_faded_4, h12, if_pos gT]
  · intro m i hi
    rw [fX4_faded_4, h12, if_neg (gL hi (by omega)), later_n h12 hN (ho i hi) hi, bS]
    unfold fX4_faded_27
    show _ = fX4_faded_4 M n m (nI (fdc (M 1) (M 2) N n i + (if decide (va (M 1) (M 2) N i n = 0) = true then 1 else 0))) _
    by_cases e : va (M 1) (M 2) N i n = 0
    · rw [if_pos e, bS, bS, nI_1, nI_1, if_pos (decide_eq_true e)]
    · rw [if_neg e, bS, bS, nI_1, if_neg (by rw [decide_eq_false e]; decide), Int32.add_zero]
      rfl
theorem va_congr {o v o' v' : Nat → Int32} {N : Nat} (h : ∀ d, d < N → o' d = o d ∧ v' d = v d) (n : Int32) {d : Nat} (hd : d < N) : va o' v' N d n = va o v N d n := by
  unfold va
  rw [(h d hd).1, (h d hd).2, (h (N - 1) (by omega)).1]
theorem fdc_congr {o v o' v' : Nat → Int32} {N : Nat} (h : ∀ d, d < N → o' d = o d ∧ v' d = v d) (n : Int32) : fdc o' v' N n N = fdc o v N n N :=
  fb_ct_cong (fun d hd => by rw [va_congr h n hd])
theorem fd_x {X M : St} {T N K : Nat} (hI : XI X T N K) (hR : XR X M T N K) (n : Int32) : fX4_faded M n = some (nI (fdc (X 0) (X 2) N n N)) := by
  rw [faded_n hR.2.1 hI.2.1 (fun d hd => by rw [(hR.2.2.2.2.2.1 d hd).1]; exact hI.2.2.2.2.2.2.2.1.1 d hd), fdc_congr (fun d hd => ⟨(hR.2.2.2.2.2.1 d hd).1, (hR.2.2.2.2.2.1 d hd).2.1⟩)]
theorem g_nights (X : St) (a : Int32) : (fX3_requireNights X a = some (Sum.inl IAE) ∧ fX4_isIn a 1 30 = some 0) ∨ ∃ n, n ≤ 30 ∧ a = nI n ∧ fX3_requireNights X a = some (Sum.inr ()) ∧ fX4_isIn a 1 30 = some 1 := by
  unfold fX3_requireNights fX4_isIn
  by_cases h : a < 1
  · rw [if_pos h, if_pos h]
    exact Or.inl ⟨rfl, rfl⟩
  · rw [if_neg h, if_neg h]
    by_cases h2 : a ≤ 30
    · rw [if_pos h2, if_neg (Int32.not_lt.mpr h2)]
      obtain ⟨n, hn, rfl⟩ := nI_of2 (x := a) (M := 30) (n := 30) (by decide) (fun q => h (Int32.lt_trans q (by decide))) h2
      exact Or.inr ⟨n, hn, rfl, rfl, rfl⟩
    · rw [if_neg h2, if_pos (Int32.not_le.mp h2)]
      exact Or.inl ⟨rfl, rfl⟩
theorem op_fadedDreams {X M : St} (h : Rel X M) : ∃ r M1, fX3_fadedDreams X = some r ∧ fX4_fadedDreams M = some (r, M1) ∧ Rel X M1 := by
  obtain ⟨T, N, K, M0, e0, z0, hI, hR⟩ := rel_s h
  refine ⟨nI (fdc (X 0) (X 2) N 0 N), M0, ?_, ?_, rel_of hI hR⟩
  · unfold fX3_fadedDreams
    rw [countFaded_n hI.2.2.2.2.1 hI.2.1, bS]
  · unfold fX4_fadedDreams
    rw [← e0, bS, fd_x hI hR, bS]
theorem op_fadedAfter {X M : St} (a1 : Int32) (h : Rel X M) : ∃ R r M1, fX3_fadedAfter X a1 = some R ∧ fX4_fadedAfter M a1 = some (r, M1) ∧ AgR [IAE] X R r M1 := by
  obtain ⟨T, N, K, M0, e0, z0, hI, hR⟩ := rel_s h
  rcases g_nights X a1 with ⟨g0, m0⟩ | ⟨n, hn, rfl, g0, m0⟩
  · exact ⟨Sum.inl IAE, 0, up M0 10 0 1, by unfold fX3_fadedAfter; rw [g0]; rfl, by unfold fX4_fadedAfter; rw [← e0, bS, m0]; rfl, agR_no (by decide) (by decide) hI hR⟩
  · refine ⟨Sum.inr (nI (fdc (X 0) (X 2) N (nI n) N)), nI (fdc (X 0) (X 2) N (nI n) N), M0, ?_, ?_, agR_ok (rel_of hI hR) z0⟩
    · unfold fX3_fadedAfter
      rw [g0, bS, xb_i, countFaded_n hI.2.2.2.2.1 hI.2.1, bS]
    · unfold fX4_fadedAfter
      rw [← e0, bS, m0, bS, if_neg n10, fd_x hI hR, bS]
theorem op_mostVivid {X M : St} (a1 : Int32) (h : Rel X M) : ∃ R r M1, fX3_mostVivid X a1 = some R ∧ fX4_mostVivid M a1 = some (r, M1) ∧ AgR [IOB] X R r M1 := by
  obtain ⟨T, N, K, M0, e0, z0, hI, hR⟩ := rel_s h
  have hI' := hI
  obtain ⟨hT, hN, hK, h14, h12, h15, hXT, hXD, hXK, hXM⟩ := hI
  rcases g_term h15 hR.2.2.1 hK a1 with ⟨g0, m0⟩ | ⟨k, hk, rfl, g0, m0⟩
  · exact ⟨Sum.inl IOB, 0, up M0 10 0 1, by unfold fX3_mostVivid; rw [g0]; rfl, by unfold fX4_mostVivid; rw [← e0, bS, m0]; rfl, agR_no (by decide) (by decide) hI' hR⟩
  · skip
    obtain ⟨Mr, q1, q7, q8, q9, qo, hRr⟩ := r_reck hI' hR
    have z0r : Mr 10 0 = 0 := by rw [qo 10 (by decide) (by decide) (by decide), z0]
    have hv : ∀ d, d < N → Mr 2 d = nI (vv X d) ∧ vv X d ≤ 9 := fun d hd => by rw [(hRr.2.2.2.2.2.1 d hd).2.1]; exact vv_n hXD hd
    refine ⟨Sum.inr (oI (low (X 9 k) (vv X) N)), oI (low (X 9 k) (vv X) N), Mr, ?_, ?_, ?_⟩
    · unfold fX3_mostVivid
      rw [g0, bS, xb_i]
      rw [ld_n (by omega) (by omega), bS, mostVividOf_n h12 hN hXD, bS]
    · unfold fX4_mostVivid
      rw [← e0, bS, m0, bS, if_neg n10]
      rw [q1, bS, ld_n (by omega) (by omega), bS, q9 k hk, brightest_n hRr.2.1 hN hv, bS]
    · exact agR_ok (rel_of hI' hRr) z0r
theorem op_commonTags {X M : St} (a1 : Int32) (h : Rel X M) : ∃ R r M1, fX3_commonTags X a1 = some R ∧ fX4_commonTags M a1 = some (r, M1) ∧ AgR [IOB] X R r M1 := by
  obtain ⟨T, N, K, M0, e0, z0, hI, hR⟩ := rel_s h
  have hI' := hI
  obtain ⟨hT, hN, hK, h14, h12, h15, hXT, hXD, hXK, hXM⟩ := hI
  rcases g_term h15 hR.2.2.1 hK a1 with ⟨g0, m0⟩ | ⟨k, hk, rfl, g0, m0⟩
  · exact ⟨Sum.inl IOB, 0, up M0 10 0 1, by unfold fX3_commonTags; rw [g0]; rfl, by unfold fX4_commonTags; rw [← e0, bS, m0]; rfl, agR_no (by decide) (by decide) hI' hR⟩
  · skip
    obtain ⟨Mr, q1, q7, q8, q9, qo, hRr⟩ := r_reck hI' hR
    have z0r : Mr 10 0 = 0 := by rw [qo 10 (by decide) (by decide) (by decide), z0]
    refine ⟨Sum.inr (nI (cnt (shr X (X 9 k) N))), nI (cnt (shr X (X 9 k) N)), Mr, ?_, ?_, ?_⟩
    · unfold fX3_commonTags
      rw [g0, bS, xb_i]
      rw [ld_n (by omega) (by omega), bS, tagsShared_n h12 hN, bS, bitCount_n, bS]
    · unfold fX4_commonTags
      rw [← e0, bS, m0, bS, if_neg n10]
      rw [q1, bS, ld_n (by omega) (by omega), bS, q9 k hk, common_n hI' hRr.1 hRr.2.1 q7 hk, bS]
    · exact agR_ok (rel_of hI' hRr) z0r
