/-! WHAT THE LAW'S OWN LEDGER ANSWERS -/
/-- class and the law's ledger together -/
def SR (X Z : St) (T N K : Nat) : Prop := Z 34 0 = nI T ∧ Z 35 0 = nI N ∧ Z 36 0 = nI K ∧ Z 37 0 = X 13 0 ∧ (∀ t, t < T → Z 1 t = X 4 t) ∧
  (∀ d, d < N → (∀ i, i < 16 → Z (10 + d) i = if bt (X 0 d) i = true then 1 else 0) ∧ Z 3 d = X 2 d ∧ Z 4 d = X 3 d) ∧
  (∀ d, N ≤ d → d < 24 → ∀ i, i < 16 → Z (10 + d) i = 0) ∧
  ∀ k, k < K → Z (40 + k) 0 = X 6 k ∧ Z (40 + k) 1 = X 7 k ∧ (X 6 k = 1 ∨ X 6 k = 2 → Z (40 + k) 2 = X 8 k)
theorem z10 : ¬ ((1 : Int32) = 0) := by decide
theorem z01 : ¬ ((0 : Int32) = 1) := by decide
theorem isT : (if (true = true) then (1 : Int32) else 0) = 1 := rfl
theorem ix_n {n i : Nat} (h : i < n) (hn : n ≤ 100) : ix n (nI i) = some i := by
  unfold ix
  rw [if_neg (nI_in h (by omega)), nI_clamp (by omega)]
theorem ldO_n {Z : St} {d i : Nat} (hd : d < 24) (hi : i < 16) : ldO Z d (nI i) = some (Z (10 + d) i) := by
  unfold ldO
  rw [if_pos hd, ld_n hi (by omega)]
theorem stoO_n {Z : St} {d i : Nat} {v : Int32} (hd : d < 24) (hi : i < 16) : stoO Z d (nI i) v = some (up Z (10 + d) i v) := by
  unfold stoO
  rw [if_pos hd, sto_n hi (by omega)]
/-- a loop that looks for a place with a property -/
theorem findL {β : Type} {f : Nat → Int32 → Option β} {T : Nat} {P : Nat → Bool} {r0 r1 : Option β} (hT : T < 100) (hexit : ∀ n, f (n + 1) (nI T) = r0) (hyes : ∀ n i, i < T → P i = true → f (n + 1) (nI i) = r1) (hno : ∀ n i, i < T → P i = false → f (n + 1) (nI i) = f n (nI (i + 1))) : f 100 0 = if 0 < fb_ct P T then r1 else r0 := by
  have key : ∀ d i n, i + d = T → d < n → f n (nI i) = if fb_ct P i < fb_ct P T then r1 else r0 := by
    intro d
    induction d with
    | zero =>
      intro i n h1 h2
      obtain ⟨n, rfl⟩ : ∃ k, n = k + 1 := ⟨n - 1, by omega⟩
      have : i = T := by omega
      subst this
      rw [hexit, if_neg (Nat.lt_irrefl _)]
    | succ d ih =>
      intro i n h1 h2
      obtain ⟨n, rfl⟩ : ∃ k, n = k + 1 := ⟨n - 1, by omega⟩
      cases hp : P i
      · rw [hno n i (by omega) hp, ih (i + 1) n (by omega) (by omega), fb_ct_succ, hp]
        rfl
      · have h3 := fb_ct_mono P (show i + 1 ≤ T by omega)
        rw [fb_ct_succ, hp] at h3
        rw [hyes n i (by omega) hp, if_pos (by simp at h3; omega)]
  exact key T 0 100 (by omega) (by omega)
theorem z_isBelow {P L : Nat → Int32} {Z : St} {T : Nat} (h : TT P L T) (hT : T ≤ 16) (hZ : ∀ t, t < T → Z 1 t = P t) {t u : Nat} (ht : t < T) (hu : u < 32) : fX4_isBelow Z (nI t) (nI u) = some (if bt (ab P L t) u = true then 1 else 0) := by
  have key : ∀ (r t n : Nat), t < T → cnt (L t) = r → r < n → fX4_isBelow_7 Z (nI u) n (nI t) = some (if bt (L t) u = true then 1 else 0) := by
    intro r
    induction r with
    | zero =>
      intro t n ht hr
      have := tt_rank h hT ht
      omega
    | succ r ih =>
      intro t n ht hr hn
      obtain ⟨n, rfl⟩ : ∃ k, n = k + 1 := ⟨n - 1, by omega⟩
      rw [fX4_isBelow_7, if_neg (nI_pos (by omega))]
      by_cases e : t = u
      · subst e
        rw [if_pos rfl, tt_self h hT ht]
        rfl
      · rw [if_neg (fun q => e ((nI_eq (by omega) (by omega)).mp q)), ld_n (by omega) (by omega), bS, hZ t ht, tt_b h hT ht, decide_eq_false (fun q => e q.symm), Bool.false_or]
        have hrk := tt_rank h hT ht
        rcases tt_c h hT ht with ⟨h0, h1⟩ | ⟨p, hp, h0, h1, -⟩
        · obtain ⟨n, rfl⟩ : ∃ k, n = k + 1 := ⟨n - 1, by omega⟩
          rw [h0, fX4_isBelow_7, if_pos (by decide), h1, b_0]
          rfl
        · rw [h0, h1]
          exact ih p n hp (by rw [h1] at hrk; omega) (by omega)
  unfold fX4_isBelow
  rw [ld_n (by omega) (by omega), bS, hZ t ht]
  rcases tt_c h hT ht with ⟨h0, h1⟩ | ⟨p, hp, h0, h1, -⟩
  · rw [h0, show (100 : Nat) = 99 + 1 from rfl, fX4_isBelow_7, if_pos (by decide), h1, b_0]
    rfl
  · have := tt_16 h hT hp
    rw [h0, h1]
    exact key _ p 100 hp rfl (by omega)
theorem cnt16 {o : Int32} (h : ∀ i, bt o i = true → i < 16) : cnt o = fb_ct (bt o) 16 := by
  unfold cnt
  have h0 : fb_ct (fun k => bt o (16 + k)) 16 = 0 := fb_ct_zero.mpr (fun k hk => by
    cases hb : bt o (16 + k)
    · rfl
    · have := h _ hb
      omega)
  rw [show (32 : Nat) = 16 + 16 from rfl, fb_ct_split, h0, Nat.add_zero]
theorem z_own {Z : St} {d : Nat} {o : Int32} (hd : d < 24) (ho : ∀ i, i < 16 → Z (10 + d) i = if bt o i = true then 1 else 0) (hb : ∀ i, bt o i = true → i < 16) : fX4_ownTags Z (nI d) = some (nI (cnt o)) := by
  unfold fX4_ownTags
  rw [ix_n hd (by omega), bS, cnt16 hb]
  refine loop100 (f := fX4_ownTags_16 Z 16 d) (st := fun i => nI (fb_ct (bt o) i)) (T := 16) (by omega) ?_ ?_
  · intro n
    rw [fX4_ownTags_16, if_pos (show (16 : Int32) ≤ nI 16 from Int32.le_refl _)]
  · intro n i hi
    rw [fX4_ownTags_16, if_neg (show ¬ (16 : Int32) ≤ nI i from nI_ge (b := 16) hi (by omega)), ldO_n hd hi, bS, ho i hi, fb_ct_succ, ← nI_add]
    cases hq : bt o i
    · rw [isF, if_pos rfl, fX4_ownTags_40, bS, bS, ← nI_add i 1]
      rfl
    · rw [isT, if_neg z10, fX4_ownTags_40, bS, bS, ← nI_add i 1]
      rfl
section SIM
variable {X Z : St} {T N K : Nat}
theorem x_own16 (hI : XI X T N K) {d : Nat} (hd : d < N) (i : Nat) (h : bt (X 0 d) i = true) : i < 16 := by
  have := hI.2.2.2.2.2.2.2.1.2.1 d hd i h
  have := hI.1
  omega
theorem z_hasTag (hI : XI X T N K) (hZ : SR X Z T N K) {d t : Nat} (hd : d < N) (ht : t < T) : fX4_hasTag Z (nI d) (nI t) = some (if bt (X 1 d) t = true then 1 else 0) := by
  obtain ⟨hT, hN, hK, h14, h12, h15, hXT, hXD, hXK, hXM⟩ := hI
  unfold fX4_hasTag
  have key := findL (f := fX4_hasTag_2 Z (nI d) (nI t)) (T := T) (P := fun i => bt (X 0 d) i && bt (X 5 i) t) (r0 := some 0) (r1 := some 1) (by omega) ?_ ?_ ?_
  · rw [key]
    have hiff : 0 < fb_ct (fun i => bt (X 0 d) i && bt (X 5 i) t) T ↔ bt (X 1 d) t = true := by
      rw [fb_ct_pos, hXD.2.2.2 d hd, lnsf_b]
      constructor
      · rintro ⟨k, h1, h2⟩
        exact ⟨k, h1, (Bool.and_eq_true _ _).mp h2⟩
      · rintro ⟨k, h1, h2, h3⟩
        exact ⟨k, h1, (Bool.and_eq_true _ _).mpr ⟨h2, h3⟩⟩
    by_cases q : bt (X 1 d) t = true
    · rw [if_pos (hiff.mpr q), if_pos q]
    · rw [if_neg (fun w => q (hiff.mp w)), if_neg q]
  · intro n
    rw [fX4_hasTag_2, hZ.1, if_pos gT]
  · intro n i hi hp
    obtain ⟨p1, p2⟩ := (Bool.and_eq_true _ _).mp hp
    rw [fX4_hasTag_2, hZ.1, if_neg (gL hi (by omega)), ix_n (by omega) (by omega), bS, ldO_n (by omega) (by omega), bS, (hZ.2.2.2.2.2.1 d hd).1 i (by omega), p1, isT, if_neg z10]
    by_cases e : i = t
    · rw [e, if_pos rfl]
    · rw [if_neg (fun q => e ((nI_eq (by omega) (by omega)).mp q)), z_isBelow hXT hT hZ.2.2.2.2.1 hi (by omega), bS]
      rw [tt_b hXT hT hi, decide_eq_false (fun q => e q.symm), Bool.false_or] at p2
      rw [p2, isT, if_neg z10]
  · intro n i hi hp
    rw [fX4_hasTag_2, hZ.1, if_neg (gL hi (by omega)), ix_n (by omega) (by omega), bS, ldO_n (by omega) (by omega), bS, (hZ.2.2.2.2.2.1 d hd).1 i (by omega)]
    cases hb : bt (X 0 d) i
    · rw [isF, if_pos rfl, bS, nI_1]
    · have p2 : bt (X 5 i) t = false := by
        have hp : (bt (X 0 d) i && bt (X 5 i) t) = false := hp
        rw [hb] at hp
        simpa using hp
      rw [tt_b hXT hT hi] at p2
      have e : i ≠ t := fun q => by
        subst q
        simp at p2
      rw [decide_eq_false (fun q => e q.symm), Bool.false_or] at p2
      rw [isT, if_neg z10, if_neg (fun q => e ((nI_eq (by omega) (by omega)).mp q)), z_isBelow hXT hT hZ.2.2.2.2.1 hi (by omega), bS, p2, isF, if_pos rfl, bS, nI_1]
theorem z_later (hI : XI X T N K) (hZ : SR X Z T N K) {d m : Nat} (hd : d < N) (hm : m ≤ 30) : fX4_later Z (nI d) (nI m) = some (va (X 0) (X 2) N d (nI m)) := by
  have hI' := hI
  obtain ⟨hT, hN, hK, h14, h12, h15, hXT, hXD, hXK, hXM⟩ := hI
  obtain ⟨N, rfl⟩ : ∃ n, N = n + 1 := ⟨N - 1, by omega⟩
  have l3 : ld Z 3 24 (nI d) = some (X 2 d) := by rw [ld_n (by omega) (by omega), (hZ.2.2.2.2.2.1 d hd).2.1]
  have hz : Z 35 0 - 1 = nI N := by rw [hZ.2.1, nI_pred]
  unfold fX4_later va
  rw [hz, Nat.add_sub_cancel]
  by_cases e : d = N
  · subst e
    rw [if_pos rfl, l3, bS, if_neg (by rw [Int32.and_self]; exact hXD.1 d hd)]
  · rw [if_neg (fun q => e ((nI_eq (by omega) (by omega)).mp q))]
    have key := findL (f := fX4_later_19 Z (nI d) (nI m)) (T := T) (P := fun i => bt (X 0 d) i && bt (X 0 N) i) (r0 := some (if 0 < X 2 d - nI m then X 2 d - nI m else 0)) (r1 := some (X 2 d)) (by omega) ?_ ?_ ?_
    · rw [key]
      have hiff : 0 < fb_ct (fun i => bt (X 0 d) i && bt (X 0 N) i) T ↔ X 0 d &&& X 0 N ≠ 0 := by
        rw [fb_ct_pos, bt_ne0]
        constructor
        · rintro ⟨k, h1, h2⟩
          exact ⟨k, by rw [b_and]; exact h2⟩
        · rintro ⟨k, h2⟩
          rw [b_and] at h2
          exact ⟨k, hXD.2.1 d hd k ((Bool.and_eq_true _ _).mp h2).1, h2⟩
      by_cases q : X 0 d &&& X 0 N = 0
      · rw [if_neg (fun w => hiff.mp w q), if_pos q]
      · rw [if_pos (hiff.mpr q), if_neg q]
    · intro n
      obtain ⟨w, hw, e2⟩ := hXD.2.2.1 d hd
      rw [fX4_later_19, hZ.1, if_pos gT, l3, bS, e2, nI_sub2 (by omega) (by omega)]
      by_cases q : w ≤ m
      · rw [if_pos (nI_le q (by omega)), show w - m = 0 by omega]
        rfl
      · rw [if_neg (nI_ge (by omega) (by omega)), bS]
        have := nI_sub2 (a := w) (b := m) (by omega) (by omega)
        rw [if_pos (by
          rw [Int32.lt_iff_toInt_lt, pk_sub_toInt (by omega) (by omega), show (0 : Int32).toInt = 0 from rfl]
          omega)] at this
        rw [this]
    · intro n i hi hp
      obtain ⟨p1, p2⟩ := (Bool.and_eq_true _ _).mp hp
      rw [fX4_later_19, hZ.1, if_neg (gL hi (by omega)), ix_n (by omega) (by omega), bS, ldO_n (by omega) (by omega), bS, (hZ.2.2.2.2.2.1 d hd).1 i (by omega), p1, isT, if_neg z10, hz, ix_n (by omega) (by omega), bS, ldO_n (by omega) (by omega), bS, (hZ.2.2.2.2.2.1 N (by omega)).1 i (by omega), p2, isT, if_neg z10, l3, bS]
    · intro n i hi hp
      have hp : (bt (X 0 d) i && bt (X 0 N) i) = false := hp
      rw [fX4_later_19, hZ.1, if_neg (gL hi (by omega)), ix_n (by omega) (by omega), bS, ldO_n (by omega) (by omega), bS, (hZ.2.2.2.2.2.1 d hd).1 i (by omega)]
      cases hb : bt (X 0 d) i
      · rw [isF, if_pos rfl, bS, nI_1]
      · rw [hb, Bool.true_and] at hp
        rw [isT, if_neg z10, hz, ix_n (by omega) (by omega), bS, ldO_n (by omega) (by omega), bS, (hZ.2.2.2.2.2.1 N (by omega)).1 i (by omega), hp, isF, if_pos rfl, bS, nI_1]
theorem z_faded (hI : XI X T N K) (hZ : SR X Z T N K) {m : Nat} (hm : m ≤ 30) : fX4_faded Z (nI m) = some (nI (fdc (X 0) (X 2) N (nI m) N)) := by
  have hN := hI.2.1
  unfold fX4_faded
  refine loop100 (f := fX4_faded_4 Z (nI m)) (st := fun i => nI (fdc (X 0) (X 2) N (nI m) i)) (T := N) (by omega) ?_ ?_
  · intro n
    rw [fX4_faded_4, hZ.2.1, if_pos gT]
  · intro n i hi
    rw [fX4_faded_4, hZ.2.1, if_neg (gL hi (by omega)), z_later hI hZ hi hm, bS]
    unfold fdc
    rw [fb_ct_succ, ← nI_add]
    by_cases q : va (X 0) (X 2) N i (nI m) = 0
    · rw [if_pos q, fX4_faded_27, bS, bS, ← nI_add i 1, decide_eq_true q]
      rfl
    · rw [if_neg q, fX4_faded_27, bS, bS, ← nI_add i 1, decide_eq_false q]
      rfl
/-! matches -/
def mrw (X : St) (N k : Nat) : Nat → Int32 := fun d => if d < N then (if bt (X 9 k) d = true then 1 else 0) else 0
def mst (X : St) (N i : Nat) : St := fun j => if j < i then mrw X N j else fun _ => 0
theorem mst_in {i j : Nat} (h : j < i) : mst X N i j = mrw X N j := if_pos h
theorem mrw_in {k d : Nat} (h : d < N) : mrw X N k d = if bt (X 9 k) d = true then 1 else 0 := if_pos h
theorem mrw_fil (k : Nat) : fil (mrw X N k) (fun _ => 0) N = mrw X N k := by
  funext d
  by_cases h : d < N
  · rw [fil_in h]
  · rw [fil_out h]
    exact (if_neg h).symm
theorem mst_s (i : Nat) : sR (mst X N i) i (mrw X N i) = mst X N (i + 1) := by
  funext j
  by_cases h : j = i
  · subst h
    rw [sR_s, mst_in (Nat.lt_succ_self j)]
  · rw [sR_n h]
    unfold mst
    by_cases h2 : j < i
    · rw [if_pos h2, if_pos (by omega)]
    · rw [if_neg h2, if_neg (by omega)]
theorem mst_0 (i : Nat) : sR (mst X N i) i (fil (mrw X N i) (fun _ => 0) 0) = mst X N i := by
  rw [fil_0]
  funext j
  by_cases h : j = i
  · subst h
    rw [sR_s]
    exact (if_neg (Nat.lt_irrefl j)).symm
  · rw [sR_n h]
theorem nar_b (b : Bool) : vp_nar .boolean (if b = true then (1 : Int32) else 0) = if b = true then 1 else 0 := by cases b <;> decide
theorem z_matches (hI : XI X T N K) (hZ : SR X Z T N K) : fX4_matches Z = some (mst X N K) := by
  have hI' := hI
  obtain ⟨hT, hN, hK, h14, h12, h15, hXT, hXD, hXK, hXM⟩ := hI
  have k36 : (Z 36 0).toNatClampNeg = K := by rw [hZ.2.2.1, nI_clamp (by omega)]
  have k35 : (Z 35 0).toNatClampNeg = N := by rw [hZ.2.1, nI_clamp (by omega)]
  unfold fX4_matches mkM
  rw [if_neg (by
    rw [hZ.2.2.1, hZ.2.1]
    rintro (q | q | q | q)
    · exact nI_pos (by omega) q
    · exact absurd (nI_le (a := K) (b := 20) hK (by omega)) (Int32.not_le.mpr q)
    · exact nI_pos (by omega) q
    · exact absurd (nI_le (a := N) (b := 24) hN (by omega)) (Int32.not_le.mpr q)), bS]
  refine loop100 (f := fX4_matches_15 Z) (st := fun i => mst X N i) (T := K) (by omega) ?_ ?_
  · intro n
    rw [fX4_matches_15, hZ.2.2.1, if_pos gT]
  · intro n i hi
    rw [fX4_matches_15, hZ.2.2.1, if_neg (gL hi (by omega)), nI_clamp (by omega), ix_n hi (by omega), bS]
    obtain ⟨t0, t1, t2⟩ := hZ.2.2.2.2.2.2.2 i hi
    have hld : ∀ j, j < 3 → ldT Z i (nI j) = some (Z (40 + i) j) := fun j hj => by
      unfold ldT
      rw [k36, if_pos hi, ld_n hj (by omega)]
    have hxm := hXM i hi
    have hts := xk_t hXK hi
    have key := loop100 (f := fX4_matches_33 Z (nI i) i (fX4_matches_15 Z n)) (st := fun e => sR (mst X N i) i (fil (mrw X N i) (fun _ => 0) e)) (T := N) (r := fX4_matches_15 Z n (mst X N (i + 1)) (nI (i + 1))) (by omega) ?_ ?_
    · rw [mst_0] at key
      exact key
    · intro m
      rw [fX4_matches_33, hZ.2.1, if_pos gT, bS, nI_1, mrw_fil, mst_s]
    · intro m e he
      have hst : ∀ v : Int32, v = (if bt (X 9 i) e = true then 1 else 0) → stoM (sR (mst X N i) i (fil (mrw X N i) (fun _ => 0) e)) K i N (nI e) v = some (sR (mst X N i) i (fil (mrw X N i) (fun _ => 0) (e + 1))) := fun v hv => by
        unfold stoM
        rw [if_pos hi, hv, nar_b, sto_n he (by omega), up_sR, ← mrw_in (X := X) (k := i) he, fil_s (mrw X N i)]
      have hlm : ∀ a, a < i → ix K (nI a) = some a ∧ ldM (sR (mst X N i) i (fil (mrw X N i) (fun _ => 0) e)) K a N (nI e) = some (if bt (X 9 a) e = true then 1 else 0) := fun a ha => by
        refine ⟨ix_n (by omega) (by omega), ?_⟩
        unfold ldM
        rw [if_pos (by omega), ld_n he (by omega), sR_n (by omega), mst_in ha, mrw_in he]
      rw [fX4_matches_33, hZ.2.1, if_neg (gL he (by omega)), k36, nI_clamp (show N < 2 ^ 31 by omega), ix_n hi (by omega), bS, show ldT Z i 0 = some (X 6 i) from (hld 0 (by omega)).trans (by rw [t0]), bS]
      have l1 : ldT Z i 1 = some (X 7 i) := (hld 1 (by omega)).trans (by rw [t1])
      have hl2 : X 6 i = 1 ∨ X 6 i = 2 → ldT Z i 2 = some (X 8 i) := fun q => (hld 2 (by omega)).trans (by rw [t2 q])
      rcases hts with ⟨q, t, ht, q7⟩ | ⟨q, ⟨a, ha, q7⟩, b, hb, q8⟩ | ⟨q, a, ha, q7⟩
      · rw [if_pos q, l1, bS, q7, z_hasTag hI' hZ he ht, bS, hst _ ?_, bS, bS, nI_1]
        have hx : bt (X 9 i) e = bt (X 1 e) t := by
          rw [hxm, q, q7]
          unfold mstep
          rw [if_pos rfl, nI_clamp (by omega)]
          apply Bool.eq_iff_iff.mpr
          rw [dhf_b e N (by omega)]
          exact ⟨fun w => w.2, fun w => ⟨he, w⟩⟩
        rw [hx]
      · have q0 : ¬ X 6 i = 0 := by rcases q with q | q <;> rw [q] <;> decide
        have q3 : ¬ X 6 i = 3 := by rcases q with q | q <;> rw [q] <;> decide
        have l2 := hl2 q
        obtain ⟨a1, a2⟩ := hlm a ha
        obtain ⟨b1, b2⟩ := hlm b hb
        rw [if_neg q0, bS, if_neg q3, bS]
        rcases q with q | q
        · have hx : bt (X 9 i) e = (bt (X 9 a) e && bt (X 9 b) e) := by
            rw [hxm, q, q7, q8]
            unfold mstep
            rw [if_neg (by decide), if_pos rfl, nI_clamp (by omega), nI_clamp (by omega), b_and]
          rw [if_pos q, l1, bS, q7, a1, bS, a2, bS]
          cases ca : bt (X 9 a) e
          · rw [isF, if_pos rfl, hst 0 (by rw [hx, ca]; rfl), bS, bS, nI_1]
          · rw [isT, if_neg z10, l2, bS, q8, b1, bS, b2, bS]
            cases cb : bt (X 9 b) e
            · rw [isF, if_pos rfl, hst 0 (by rw [hx, ca, cb]; rfl), bS, bS, nI_1]
            · rw [isT, if_neg z10, hst 1 (by rw [hx, ca, cb]; rfl), bS, bS, nI_1]
        · have hx : bt (X 9 i) e = (bt (X 9 a) e || bt (X 9 b) e) := by
            rw [hxm, q, q7, q8]
            unfold mstep
            rw [if_neg (by decide), if_neg (by decide), if_pos rfl, nI_clamp (by omega), nI_clamp (by omega), b_or]
          rw [if_neg (by rw [q]; decide), l1, bS, q7, a1, bS, a2, bS]
          cases ca : bt (X 9 a) e
          · rw [isF, if_pos rfl, l2, bS, q8, b1, bS, b2, bS]
            cases cb : bt (X 9 b) e
            · rw [isF, if_pos rfl, hst 0 (by rw [hx, ca, cb]; rfl), bS, bS, nI_1]
            · rw [isT, if_neg z10, hst 1 (by rw [hx, ca, cb]; rfl), bS, bS, nI_1]
          · rw [isT, if_neg z10, hst 1 (by rw [hx, ca]; rfl), bS, bS, nI_1]
      · obtain ⟨a1, a2⟩ := hlm a ha
        have hx : bt (X 9 i) e = !bt (X 9 a) e := by
          rw [hxm, q, q7]
          unfold mstep
          rw [if_neg (by decide), if_neg (by decide), if_neg (by decide), nI_clamp (by omega), b_and, bt_allN (by omega), bt_not _ (by omega), decide_eq_true he, Bool.true_and]
        rw [if_neg (by rw [q]; decide), bS, if_pos q, l1, bS, q7, a1, bS, a2, bS]
        cases ca : bt (X 9 a) e
        · rw [isF, if_pos rfl, hst 1 (by rw [hx, ca]; rfl), bS, bS, nI_1]
        · rw [isT, if_neg z10, hst 0 (by rw [hx, ca]; rfl), bS, bS, nI_1]
end SIM
