def vv (X : St) (d : Nat) : Nat := (X 2 d).toNatClampNeg
theorem vv_n {X : St} {T N : Nat} (h : XD X T N) {d : Nat} (hd : d < N) : X 2 d = nI (vv X d) ∧ vv X d ≤ 9 := by
  obtain ⟨v, hv, e⟩ := h.2.2.1 d hd
  have : vv X d = v := by unfold vv; rw [e, nI_clamp (by omega)]
  rw [this]
  exact ⟨e, hv⟩
theorem xm_sub {X : St} {T N K : Nat} (hN : N ≤ 24) (hT : T ≤ 16) (hK : K ≤ 20) (hk0 : XK0 X T K) (hm : XM X N K) : ∀ n k, k < n → k < K → ∀ i, bt (X 9 k) i = true → i < N := by
  intro n
  induction n with
  | zero => intro k hk; omega
  | succ n ih =>
    intro k hk hkK i hi
    rw [hm k hkK] at hi
    unfold mstep at hi
    rcases hk0 k hkK with ⟨h0, t, ht, e⟩ | ⟨h0, ⟨a, ha, ea⟩, b, hb, eb⟩ | ⟨h0, a, ha, ea⟩
    · rw [if_pos h0] at hi
      exact ((dhf_b i N (by omega)).mp hi).1
    · rcases h0 with h0 | h0
      · rw [h0, if_neg (by decide), if_pos rfl, ea, nI_clamp (by omega), b_and] at hi
        exact ih a (by omega) (by omega) i ((Bool.and_eq_true _ _).mp hi).1
      · rw [h0, if_neg (by decide), if_neg (by decide), if_pos rfl, ea, eb, nI_clamp (by omega), nI_clamp (by omega), b_or] at hi
        rcases (Bool.or_eq_true _ _).mp hi with hi | hi
        · exact ih a (by omega) (by omega) i hi
        · exact ih b (by omega) (by omega) i hi
    · rw [h0, if_neg (by decide), if_neg (by decide), if_neg (by decide), b_and, bt_allN (by omega)] at hi
      exact of_decide_eq_true ((Bool.and_eq_true _ _).mp hi).1
theorem xi_sub {X : St} {T N K : Nat} (hI : XI X T N K) {k : Nat} (hk : k < K) (i : Nat) (h : bt (X 9 k) i = true) : i < N := by
  obtain ⟨hT, hN, hK, h14, h12, h15, hXT, hXD, hXK, hXM⟩ := hI
  exact xm_sub hN hT hK hXK hXM (k + 1) k (Nat.lt_succ_self k) hk i h
theorem xi_has {X : St} {T N K : Nat} (hI : XI X T N K) {d : Nat} (hd : d < N) (i : Nat) (h : bt (X 1 d) i = true) : i < T := by
  obtain ⟨hT, hN, hK, h14, h12, h15, hXT, hXD, hXK, hXM⟩ := hI
  rw [hXD.2.2.2 d hd] at h
  obtain ⟨t, ht, -, h2⟩ := (lnsf_b i T).mp h
  exact hXT.2.2.2 t ht i h2
def cmn (s0 : Int32) (h : Nat → Int32) (m : Int32) : Nat → Int32
  | 0 => s0
  | i + 1 => if bt m i = true then cmn s0 h m i &&& h i else cmn s0 h m i
theorem cmn_b {s0 : Int32} {h : Nat → Int32} {m : Int32} (j : Nat) : ∀ n, bt (cmn s0 h m n) j = true ↔ bt s0 j = true ∧ ∀ i, i < n → bt m i = true → bt (h i) j = true := by
  intro n
  induction n with
  | zero =>
    constructor
    · intro q
      exact ⟨q, fun i hi => by omega⟩
    · rintro ⟨q, -⟩
      exact q
  | succ n ih =>
    unfold cmn
    constructor
    · intro q
      split at q
      · rename_i hb
        rw [b_and] at q
        obtain ⟨q1, q2⟩ := (Bool.and_eq_true _ _).mp q
        obtain ⟨q3, q4⟩ := ih.mp q1
        refine ⟨q3, fun i hi hbi => ?_⟩
        by_cases e : i = n
        · subst e
          exact q2
        · exact q4 i (by omega) hbi
      · rename_i hb
        obtain ⟨q3, q4⟩ := ih.mp q
        refine ⟨q3, fun i hi hbi => ?_⟩
        by_cases e : i = n
        · subst e
          exact absurd hbi hb
        · exact q4 i (by omega) hbi
    · rintro ⟨q1, q2⟩
      have q3 := ih.mpr ⟨q1, fun i hi => q2 i (by omega)⟩
      split
      · rename_i hb
        rw [b_and, q3, q2 n (by omega) hb]
        rfl
      · exact q3
theorem shared_13 {X : St} {N : Nat} (h12 : X 12 0 = nI N) (hN : N ≤ 24) (m s0 : Int32) : fX3_tagsSharedBy_13 X m 100 s0 0 = some (cmn s0 (X 1) m N) := by
  refine loop100 (f := fX3_tagsSharedBy_13 X m) (st := fun i => cmn s0 (X 1) m i) (T := N) (by omega) ?_ ?_
  · intro n
    rw [fX3_tagsSharedBy_13, h12, if_pos gT]
  · intro n i hi
    rw [fX3_tagsSharedBy_13, h12, if_neg (gL hi (by omega)), isIn_n (by omega), bS, cmn]
    cases hb : bt m i
    · rw [isF, if_pos rfl, if_neg (by decide), bS, nI_1]
    · rw [if_pos rfl, if_neg n10, if_pos rfl, ld_n (by omega) (by omega), bS, bS, bS, nI_1]
/-- the tags that all of m have -/
def shr (X : St) (m : Int32) (N : Nat) : Int32 := if m = 0 then cmn 0 (X 1) m N else cmn 65535 (X 1) m N
theorem tagsShared_n {X : St} {N : Nat} (h12 : X 12 0 = nI N) (hN : N ≤ 24) (m : Int32) : fX3_tagsSharedBy X m = some (shr X m N) := by
  unfold fX3_tagsSharedBy shr
  split
  · exact shared_13 h12 hN m 0
  · exact shared_13 h12 hN m 65535
/-! vividness after some nights -/
def va (o v : Nat → Int32) (N d : Nat) (n : Int32) : Int32 := if o d &&& o (N - 1) = 0 then (if 0 < v d - n then v d - n else 0) else v d
theorem vivAfter_n {X : St} {N d : Nat} (h12 : X 12 0 = nI N) (hN : N ≤ 24) (hd : d < N) (n : Int32) : fX3_vividnessAfter X (nI d) n = some (va (X 0) (X 2) N d n) := by
  unfold fX3_vividnessAfter fX3_ownTagsOfLatest fX3_vividnessAfter_19 va
  obtain ⟨m, rfl⟩ : ∃ m, N = m + 1 := ⟨N - 1, by omega⟩
  rw [ld_n (by omega) (by omega), bS, h12, if_neg (nI_ne0 (by omega) (by omega)), nI_pred, ld_n (by omega) (by omega), bS, bS, ld_n (by omega) (by omega), Nat.add_sub_cancel]
  split
  · rw [if_pos rfl, bS, bS]
  · rw [if_neg n10, bS]
theorem nI_sub2 {a b : Nat} (ha : a < 2 ^ 20) (hb : b < 2 ^ 20) : (if 0 < nI a - nI b then nI a - nI b else 0) = nI (a - b) := by
  rcases Nat.lt_or_ge b a with h | h
  · have e : nI a - nI b = nI (a - b) := pk_sub (by omega)
    rw [e, if_pos (by
      have := nI_lt (a := 0) (b := a - b) (by omega) (by omega)
      exact this)]
  · have e : nI b - nI a = nI (b - a) := pk_sub h
    have e2 : ¬ 0 < nI a - nI b := by
      intro q
      have e3 : nI a - nI b = -(nI (b - a)) := by rw [← e, Int32.neg_sub]
      rw [e3, Int32.lt_iff_toInt_lt, Int32.toInt_neg, nI_toInt (by omega)] at q
      have : (0 : Int32).toInt = 0 := by decide
      rw [this] at q
      have h2 : (-((b - a : Nat) : Int)).bmod (2 ^ 32) = -((b - a : Nat) : Int) := Int.bmod_eq_of_le (by omega) (by omega)
      rw [h2] at q
      omega
    rw [if_neg e2, show a - b = 0 by omega]
    rfl
theorem va_n {o v : Nat → Int32} {N d n : Nat} (hv : ∃ w, w ≤ 9 ∧ v d = nI w) (hn : n ≤ 30) : ∃ w, w ≤ 9 ∧ va o v N d (nI n) = nI w := by
  obtain ⟨w, hw, e⟩ := hv
  unfold va
  split
  · rw [e, nI_sub2 (by omega) (by omega)]
    exact ⟨w - n, by omega, rfl⟩
  · exact ⟨w, hw, e⟩
def fdc (o v : Nat → Int32) (N : Nat) (n : Int32) : Nat → Nat := fb_ct (fun d => decide (va o v N d n = 0))
theorem countFaded_n {X : St} {N : Nat} (h12 : X 12 0 = nI N) (hN : N ≤ 24) (n : Int32) : fX3_countFadedAfter X n = some (nI (fdc (X 0) (X 2) N n N)) := by
  unfold fX3_countFadedAfter
  refine loop100 (f := fX3_countFadedAfter_4 X n) (st := fun i => nI (fdc (X 0) (X 2) N n i)) (T := N) (by omega) ?_ ?_
  · intro m
    rw [fX3_countFadedAfter_4, h12, if_pos gT]
  · intro m i hi
    rw [fX3_countFadedAfter_4, h12, if_neg (gL hi (by omega)), vivAfter_n h12 hN hi, bS]
    show _ = fX3_countFadedAfter_4 X n m (nI (fdc (X 0) (X 2) N n i + (if decide (va (X 0) (X 2) N i n = 0) = true then 1 else 0))) _
    by_cases e : va (X 0) (X 2) N i n = 0
    · rw [if_pos e, bS, bS, nI_1, nI_1, if_pos (decide_eq_true e)]
    · rw [if_neg e, bS, nI_1, if_neg (by rw [decide_eq_false e]; decide)]
      rfl
theorem va_congr {o v o' v' : Nat → Int32} {N : Nat} (h : ∀ d, d < N → o' d = o d ∧ v' d = v d) (n : Int32) {d : Nat} (hd : d < N) : va o' v' N d n = va o v N d n := by
  unfold va
  rw [(h d hd).1, (h d hd).2, (h (N - 1) (by omega)).1]
theorem fdc_congr {o v o' v' : Nat → Int32} {N : Nat} (h : ∀ d, d < N → o' d = o d ∧ v' d = v d) (n : Int32) : fdc o' v' N n N = fdc o v N n N :=
  fb_ct_cong (fun d hd => by rw [va_congr h n hd])
