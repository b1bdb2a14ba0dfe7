/-! WHAT FOLLOWS FROM PARENTS, OWN TAGS AND TERMS -/
theorem lnsf_congr {L L' : Nat → Int32} {o : Int32} : ∀ {T : Nat}, (∀ t, t < T → L t = L' t) → lnsf L o T = lnsf L' o T := by
  intro T
  induction T with
  | zero => intro _; rfl
  | succ T ih =>
    intro h
    unfold lnsf
    rw [ih (fun t ht => h t (by omega)), h T (by omega)]
theorem dhf_congr {h h' : Nat → Int32} {t : Nat} : ∀ {N : Nat}, (∀ d, d < N → h d = h' d) → dhf h t N = dhf h' t N := by
  intro N
  induction N with
  | zero => intro _; rfl
  | succ N ih =>
    intro e
    unfold dhf
    rw [ih (fun d hd => e d (by omega)), e N (by omega)]
theorem lnsf_b {L : Nat → Int32} {o : Int32} (i : Nat) : ∀ (T : Nat), bt (lnsf L o T) i = true ↔ ∃ t, t < T ∧ bt o t = true ∧ bt (L t) i = true := by
  intro T
  induction T with
  | zero =>
    constructor
    · intro h
      rw [show lnsf L o 0 = 0 from rfl, b_0] at h
      cases h
    · rintro ⟨t, ht, -⟩
      omega
  | succ T ih =>
    unfold lnsf
    constructor
    · intro h
      split at h
      · rename_i hb
        rw [b_or] at h
        rcases (Bool.or_eq_true _ _).mp h with h | h
        · obtain ⟨t, h1, h2⟩ := ih.mp h
          exact ⟨t, by omega, h2⟩
        · exact ⟨T, by omega, hb, h⟩
      · obtain ⟨t, h1, h2⟩ := ih.mp h
        exact ⟨t, by omega, h2⟩
    · rintro ⟨t, h1, h2, h3⟩
      by_cases e : t = T
      · subst e
        rw [if_pos h2, b_or, h3, Bool.or_true]
      · have h4 := ih.mpr ⟨t, by omega, h2, h3⟩
        split
        · rw [b_or, h4]
          rfl
        · exact h4
theorem dhf_b {h : Nat → Int32} {t : Nat} (i : Nat) : ∀ (N : Nat), N ≤ 32 → (bt (dhf h t N) i = true ↔ i < N ∧ bt (h i) t = true) := by
  intro N
  induction N with
  | zero =>
    intro _
    constructor
    · intro h
      rw [show dhf _ t 0 = 0 from rfl, b_0] at h
      cases h
    · rintro ⟨h1, -⟩
      omega
  | succ N ih =>
    intro hN
    unfold dhf
    have ih := ih (by omega)
    constructor
    · intro hh
      split at hh
      · rename_i hb
        rw [b_or, bt_sb (by omega)] at hh
        rcases (Bool.or_eq_true _ _).mp hh with hh | hh
        · obtain ⟨h1, h2⟩ := ih.mp hh
          exact ⟨by omega, h2⟩
        · have : i = N := of_decide_eq_true hh
          subst this
          exact ⟨by omega, hb⟩
      · obtain ⟨h1, h2⟩ := ih.mp hh
        exact ⟨by omega, h2⟩
    · rintro ⟨h1, h2⟩
      by_cases e : i = N
      · subst e
        rw [if_pos h2, b_or, bt_sb (by omega), decide_eq_true rfl, Bool.or_true]
      · have h4 := ih.mpr ⟨by omega, h2⟩
        split
        · rw [b_or, h4]
          rfl
        · exact h4
theorem isF : (if (false = true) then (1 : Int32) else 0) = 0 := by decide
theorem linesOf_n {S : St} {T : Nat} (hS : S 14 0 = nI T) (hT : T ≤ 16) (o : Int32) : fX1_linesOf S o = some (lnsf (S 5) o T) := by
  unfold fX1_linesOf
  refine loop100 (f := fX1_linesOf_4 S o) (st := fun i => lnsf (S 5) o i) (T := T) (by omega) ?_ ?_
  · intro n
    rw [fX1_linesOf_4, hS, if_pos gT]
  · intro n i hi
    rw [fX1_linesOf_4, hS, if_neg (gL hi (by omega)), isIn_n (by omega), bS]
    show _ = fX1_linesOf_4 S o n (if bt o i = true then lnsf (S 5) o i ||| S 5 i else lnsf (S 5) o i) (nI (i + 1))
    cases hb : bt o i
    · rw [isF, if_pos rfl, if_neg (by decide), bS, nI_1]
    · rw [if_pos rfl, if_neg (by decide), if_pos rfl, ld_n (by omega) (by omega), bS, bS, bS, nI_1]
theorem dreamsHaving_n {S : St} {N : Nat} (hS : S 12 0 = nI N) (hN : N ≤ 24) {t : Nat} (ht : t < 32) : fX3_dreamsHaving S (nI t) = some (dhf (S 1) t N) := by
  unfold fX3_dreamsHaving
  refine loop100 (f := fX3_dreamsHaving_4 S (nI t)) (st := fun i => dhf (S 1) t i) (T := N) (by omega) ?_ ?_
  · intro n
    rw [fX3_dreamsHaving_4, hS, if_pos gT]
  · intro n i hi
    rw [fX3_dreamsHaving_4, hS, if_neg (gL hi (by omega)), ld_n (by omega) (by omega), bS, isIn_n ht, bS]
    show _ = fX3_dreamsHaving_4 S (nI t) n (if bt (S 1 i) t = true then dhf (S 1) t i ||| sb i else dhf (S 1) t i) (nI (i + 1))
    cases hb : bt (S 1 i) t
    · rw [isF, if_pos rfl, if_neg (by decide), bS, nI_1]
    · rw [if_pos rfl, if_neg (by decide), if_pos rfl, bS, bS, nI_1]
      rfl
/-! terms -/
def mrow (kd a b : Nat → Int32) (w : Nat → Int32) (al : Int32) (m0 : Nat → Int32) : Nat → Nat → Int32
  | 0 => m0
  | k + 1 => upd (mrow kd a b w al m0 k) k (mstep (kd k) (a k) (b k) w (mrow kd a b w al m0 k) al)
theorem mrow_st (kd a b w : Nat → Int32) (al : Int32) (m0 : Nat → Int32) (j : Nat) : ∀ d, mrow kd a b w al m0 (j + 1 + d) j = mrow kd a b w al m0 (j + 1) j := by
  intro d
  induction d with
  | zero => rfl
  | succ d ih =>
    rw [show j + 1 + (d + 1) = (j + 1 + d) + 1 from rfl, mrow, upd_n (by omega), ih]
theorem mrow_eq (kd a b w : Nat → Int32) (al : Int32) (m0 : Nat → Int32) {j K : Nat} (h : j < K) : mrow kd a b w al m0 K j = mstep (kd j) (a j) (b j) w (mrow kd a b w al m0 j) al := by
  obtain ⟨d, rfl⟩ : ∃ d, K = j + 1 + d := ⟨K - (j + 1), by omega⟩
  rw [mrow_st, mrow, upd_s]
theorem mrow_lo (kd a b w : Nat → Int32) (al : Int32) (m0 : Nat → Int32) {j k K : Nat} (h : j < k) (h2 : k ≤ K) : mrow kd a b w al m0 K j = mrow kd a b w al m0 k j := by
  rw [mrow_eq _ _ _ _ _ _ (show j < K by omega), mrow_eq _ _ _ _ _ _ h]
/-- the shape of one term -/
def tsh (kd a b : Int32) (T k : Nat) : Prop := (kd = 0 ∧ ∃ t, t < T ∧ a = nI t) ∨ ((kd = 1 ∨ kd = 2) ∧ (∃ x, x < k ∧ a = nI x) ∧ ∃ y, y < k ∧ b = nI y) ∨ (kd = 3 ∧ ∃ x, x < k ∧ a = nI x)
theorem xk_t {X : St} {T K : Nat} (h : XK0 X T K) {k : Nat} (hk : k < K) : tsh (X 6 k) (X 7 k) (X 8 k) T k := h k hk
theorem mstep_c {kd a b : Int32} {T k : Nat} (h : tsh kd a b T k) (hk : k < 100) (hT : T ≤ 16) {w w' m m' : Nat → Int32} {al : Int32} (hw : ∀ t, t < T → w t = w' t) (hm : ∀ j, j < k → m j = m' j) : mstep kd a b w m al = mstep kd a b w' m' al := by
  unfold mstep
  rcases h with ⟨rfl, t, ht, rfl⟩ | ⟨h1, ⟨x, hx, rfl⟩, y, hy, rfl⟩ | ⟨rfl, x, hx, rfl⟩
  · rw [if_pos rfl, if_pos rfl, nI_clamp (by omega), hw t ht]
  · have h0 : kd ≠ 0 := by rcases h1 with rfl | rfl <;> decide
    rw [if_neg h0, if_neg h0, nI_clamp (by omega), nI_clamp (by omega), hm x hx, hm y hy]
  · rw [if_neg (by decide), if_neg (by decide), if_neg (by decide), if_neg (by decide), if_neg (by decide), if_neg (by decide), nI_clamp (by omega), hm x hx]
theorem mAhead_n {S : St} {a k : Nat} (h : a < k) (hk : k < 20) : fX2_matchedAhead S (nI a) (nI k) = some (S 9 a) := by
  unfold fX2_matchedAhead
  rw [if_neg (nI_pos (by omega)), if_neg (nI_ge h (by omega)), ld_n (by omega) (by omega), bS]
theorem mAhead_any {S : St} (v : Int32) {k : Nat} (hk : k < 20) : ∃ r, fX2_matchedAhead S v (nI k) = some r := by
  unfold fX2_matchedAhead
  by_cases h1 : v < 0
  · exact ⟨_, if_pos h1⟩
  · rw [if_neg h1]
    by_cases h2 : nI k ≤ v
    · exact ⟨_, if_pos h2⟩
    · rw [if_neg h2]
      obtain ⟨j, hj, rfl⟩ := nI_of h1
      have : j < k := by
        rcases Nat.lt_or_ge j k with q | q
        · exact q
        · exact absurd (nI_le q hj) h2
      exact ⟨S 9 j, by rw [ld_n (by omega) (by omega), bS]⟩
theorem combine_n {S : St} {k : Nat} (hk : k < 20) {kd : Int32} {T : Nat} (al : Int32) (w : Nat → Int32) (hkd : S 6 k = kd) (h : tsh kd (S 7 k) (S 8 k) T k) (h0 : kd ≠ 0) : fX2_combine S (nI k) al = some (up S 9 k (mstep kd (S 7 k) (S 8 k) w (S 9) al)) := by
  unfold fX2_combine mstep
  rw [if_neg h0]
  rcases h with ⟨h1, -⟩ | ⟨h1, ⟨x, hx, ex⟩, y, hy, ey⟩ | ⟨h1, x, hx, ex⟩
  · exact absurd h1 h0
  · rw [ld_n hk (by omega), bS, ex, mAhead_n hx hk, bS, ld_n hk (by omega), bS, ey, mAhead_n hy hk, bS, ld_n hk (by omega), bS, hkd, nI_clamp (by omega), nI_clamp (by omega)]
    rcases h1 with rfl | rfl
    · rw [if_pos rfl, if_pos rfl, sto_n hk (by omega), bS]
    · rw [if_neg (by decide), if_neg (by decide), bS, if_pos rfl, if_pos rfl, sto_n hk (by omega), bS]
  · obtain ⟨r, hr⟩ := mAhead_any (S := S) (S 8 k) hk
    subst h1
    rw [ld_n hk (by omega), bS, ex, mAhead_n hx hk, bS, ld_n hk (by omega), bS, hr, bS, ld_n hk (by omega), bS, hkd, if_neg (by decide), if_neg (by decide), bS, if_neg (by decide), if_neg (by decide), sto_n hk (by omega), bS, nI_clamp (by omega)]
theorem rematch_n {S : St} {T N K : Nat} (h12 : S 12 0 = nI N) (hN : N ≤ 24) (h15 : S 15 0 = nI K) (hK : K ≤ 20) (hT : T ≤ 16) (hk0 : XK0 S T K) : ∃ m, fX3_rematchTerms S = some (sR S 9 m) ∧ XM (sR S 9 m) N K := by
  refine ⟨mrow (S 6) (S 7) (S 8) (fun t => dhf (S 1) t N) (allN N) (S 9) K, ?_, ?_⟩
  · unfold fX3_rematchTerms
    have key := loop100 (f := fX3_rematchTerms_2) (st := fun i => sR S 9 (mrow (S 6) (S 7) (S 8) (fun t => dhf (S 1) t N) (allN N) (S 9) i)) (T := K) (r := some (sR S 9 (mrow (S 6) (S 7) (S 8) (fun t => dhf (S 1) t N) (allN N) (S 9) K))) (by omega) ?_ ?_
    · rw [show sR S 9 (mrow (S 6) (S 7) (S 8) (fun t => dhf (S 1) t N) (allN N) (S 9) 0) = S from sR_id S 9] at key
      exact key
    · intro n
      rw [fX3_rematchTerms_2, sR_n (by decide), h15, if_pos gT]
    · intro n i hi
      have hts := xk_t hk0 hi
      rw [fX3_rematchTerms_2, sR_n (a := 15) (by decide), h15, if_neg (gL hi (by omega)), ld_n (by omega) (by omega), bS, sR_n (a := 6) (by decide)]
      by_cases h0 : S 6 i = 0
      · rw [if_pos h0]
        have ht : ∃ t, t < T ∧ S 7 i = nI t := by
          rcases hts with ⟨-, ht⟩ | ⟨h1, -⟩ | ⟨h1, -⟩
          · exact ht
          · rw [h0] at h1
            rcases h1 with h1 | h1 <;> exact absurd h1 (by decide)
          · rw [h0] at h1
            exact absurd h1 (by decide)
        obtain ⟨t, ht, e7⟩ := ht
        rw [ld_n (by omega) (by omega), bS, sR_n (a := 7) (by decide), e7, dreamsHaving_n (N := N) (by rw [sR_n (a := 12) (by decide)]; exact h12) hN (by omega), bS, sto_n (by omega) (by omega), bS, bS, nI_1, up_sR, sR_n (a := 1) (by decide)]
        congr 1
        rw [mrow, h0, e7]
        unfold mstep
        rw [if_pos rfl, nI_clamp (by omega)]
      · rw [if_neg h0]
        unfold fX3_allDreams
        rw [sR_n (a := 12) (by decide), h12, bS]
        have hc := combine_n (S := sR S 9 (mrow (S 6) (S 7) (S 8) (fun t => dhf (S 1) t N) (allN N) (S 9) i)) (k := i) (by omega) (kd := S 6 i) (T := T) (allN N) (fun t => dhf (S 1) t N) (by rw [sR_n (a := 6) (by decide)]) (by rw [sR_n (a := 7) (by decide), sR_n (a := 8) (by decide)]; exact hts) h0
        rw [sR_n (a := 7) (by decide), sR_n (a := 8) (by decide), sR_s, up_sR] at hc
        show Option.bind (fX2_combine _ (nI i) (allN N)) _ = _
        rw [hc, bS, bS, nI_1]
        rfl
  · intro k hk
    rw [sR_s, sR_n (a := 6) (by decide), sR_n (a := 7) (by decide), sR_n (a := 8) (by decide), sR_n (a := 1) (by decide), mrow_eq _ _ _ _ _ _ hk]
    exact mstep_c (xk_t hk0 hk) (by omega) hT (fun _ _ => rfl) (fun j hj => (mrow_lo _ _ _ _ _ _ hj (by omega)).symm)
/-- terms that match alike: what they match is one -/
theorem xm_one {kd a b kd' a' b' w w' m m' : Nat → Int32} {al : Int32} {T K : Nat} (hK : K ≤ 20) (hT : T ≤ 16) (hs : ∀ k, k < K → tsh (kd k) (a k) (b k) T k) (h1 : ∀ k, k < K → kd' k = kd k ∧ a' k = a k ∧ (kd k = 1 ∨ kd k = 2 → b' k = b k)) (hw : ∀ t, t < T → w' t = w t)
    (hm : ∀ k, k < K → m k = mstep (kd k) (a k) (b k) w m al) (hm' : ∀ k, k < K → m' k = mstep (kd' k) (a' k) (b' k) w' m' al) : ∀ n k, k < n → k < K → m' k = m k := by
  intro n
  induction n with
  | zero => intro k hk; omega
  | succ n ih =>
    intro k hk hkK
    rw [hm k hkK, hm' k hkK]
    obtain ⟨e1, e2, e3⟩ := h1 k hkK
    rw [e1, e2]
    have e4 : mstep (kd k) (a k) (b' k) w' m' al = mstep (kd k) (a k) (b k) w' m' al := by
      rcases hs k hkK with ⟨q, -⟩ | ⟨q, -⟩ | ⟨q, -⟩
      · unfold mstep
        rw [if_pos q, if_pos q]
      · rw [e3 q]
      · unfold mstep
        rw [q, if_neg (by decide), if_neg (by decide), if_neg (by decide), if_neg (by decide), if_neg (by decide), if_neg (by decide)]
    rw [e4]
    exact mstep_c (hs k hkK) (by omega) hT (fun t ht => hw t ht) (fun j hj => ih j (by omega) (by omega))
/-! changes -/
theorem moveTag_n {S : St} {T N K tag : Nat} {pa : Int32} {L : Nat → Int32} (h14 : S 14 0 = nI T) (hT : T ≤ 16) (h12 : S 12 0 = nI N) (hN : N ≤ 24) (h15 : S 15 0 = nI K) (hK : K ≤ 20) (hk0 : XK0 S T K) (ht : tag < 16) (h : TT (upd (S 4) tag pa) L T) :
    ∃ S', fX3_moveTag S (nI tag) pa = some S' ∧ S' 4 = upd (S 4) tag pa ∧ (∀ t, t < T → S' 5 t = L t) ∧ (∀ d, d < N → S' 1 d = lnsf L (S 0 d) T) ∧ XM S' N K ∧ ∀ a, a ≠ 4 → a ≠ 5 → a ≠ 1 → a ≠ 9 → S' a = S a := by
  obtain ⟨S1, hS1⟩ : ∃ z, z = sR (sR S 4 (upd (S 4) tag pa)) 5 (fil L (S 5) T) := ⟨_, rfl⟩
  have r5 : S1 5 = fil L (S 5) T := by rw [hS1, sR_s]
  have r4 : S1 4 = upd (S 4) tag pa := by rw [hS1, sR_n (by decide), sR_s]
  have ro : ∀ a, a ≠ 4 → a ≠ 5 → S1 a = S a := fun a h4 h5 => by rw [hS1, sR_n h5, sR_n h4]
  obtain ⟨S2, hS2⟩ : ∃ z, z = sR S1 1 (fil (fun d => lnsf (S1 5) (S1 0 d) T) (S1 1) N) := ⟨_, rfl⟩
  have q1 : S2 1 = fil (fun d => lnsf (S1 5) (S1 0 d) T) (S1 1) N := by rw [hS2, sR_s]
  have qo : ∀ a, a ≠ 1 → S2 a = S1 a := fun a h1 => by rw [hS2, sR_n h1]
  have hk2 : XK0 S2 T K := by
    intro k hk
    rw [qo 6 (by decide), qo 7 (by decide), qo 8 (by decide), ro 6 (by decide) (by decide), ro 7 (by decide) (by decide), ro 8 (by decide) (by decide)]
    exact hk0 k hk
  have c12 : S2 12 0 = nI N := by rw [qo 12 (by decide), ro 12 (by decide) (by decide), h12]
  have c15 : S2 15 0 = nI K := by rw [qo 15 (by decide), ro 15 (by decide) (by decide), h15]
  obtain ⟨m, hm1, hm2⟩ := rematch_n c12 hN c15 hK hT hk2
  refine ⟨sR S2 9 m, ?_, ?_, ?_, ?_, hm2, ?_⟩
  · unfold fX3_moveTag
    rw [hang_n h14 hT ht h, bS, ← hS1]
    have key := loop100 (f := fX3_moveTag_11) (st := fun i => sR S1 1 (fil (fun d => lnsf (S1 5) (S1 0 d) T) (S1 1) i)) (T := N) (r := some (sR S2 9 m)) (by omega) ?_ ?_
    · rw [fil_0, sR_id] at key
      exact key
    · intro n
      rw [fX3_moveTag_11, ← hS2, c12, if_pos gT, hm1, bS]
    · intro n i hi
      rw [fX3_moveTag_11, sR_n (a := 12) (by decide), ro 12 (by decide) (by decide), h12, if_neg (gL hi (by omega)), ld_n (by omega) (by omega), bS, sR_n (a := 0) (by decide), linesOf_n (T := T) (by rw [sR_n (a := 14) (by decide), ro 14 (by decide) (by decide), h14]) hT, bS, sto_n (by omega) (by omega), bS, bS, nI_1, up_sR, sR_n (a := 5) (by decide), fil_s (fun d => lnsf (S1 5) (S1 0 d) T)]
  · rw [sR_n (by decide), qo 4 (by decide), r4]
  · intro t ht
    rw [sR_n (by decide), qo 5 (by decide), r5, fil_in ht]
  · intro d hd
    rw [sR_n (by decide), q1, fil_in hd, ro 0 (by decide) (by decide), r5]
    exact lnsf_congr (fun t ht => fil_in ht)
  · intro a h4 h5 h1 h9
    rw [sR_n h9, qo a h1, ro a h4 h5]
theorem setOwn_n {S : St} {T N K d : Nat} {o : Int32} (h14 : S 14 0 = nI T) (hT : T ≤ 16) (h12 : S 12 0 = nI N) (hN : N ≤ 24) (h15 : S 15 0 = nI K) (hK : K ≤ 20) (hk0 : XK0 S T K) (hd : d < 24) :
    ∃ S', fX3_setOwnTags S (nI d) o = some S' ∧ S' 0 = upd (S 0) d o ∧ S' 1 = upd (S 1) d (lnsf (S 5) o T) ∧ XM S' N K ∧ ∀ a, a ≠ 0 → a ≠ 1 → a ≠ 9 → S' a = S a := by
  obtain ⟨S2, hS2⟩ : ∃ z, z = up (up S 0 d o) 1 d (lnsf (S 5) o T) := ⟨_, rfl⟩
  have q1 : S2 1 = upd (S 1) d (lnsf (S 5) o T) := by rw [hS2, up_s, up_n (by decide)]
  have q0 : S2 0 = upd (S 0) d o := by rw [hS2, up_n (by decide), up_s]
  have qo : ∀ a, a ≠ 0 → a ≠ 1 → S2 a = S a := fun a h0 h1 => by rw [hS2, up_n h1, up_n h0]
  have hk2 : XK0 S2 T K := by
    intro k hk
    rw [qo 6 (by decide) (by decide), qo 7 (by decide) (by decide), qo 8 (by decide) (by decide)]
    exact hk0 k hk
  obtain ⟨m, hm1, hm2⟩ := rematch_n (S := S2) (by rw [qo 12 (by decide) (by decide), h12]) hN (by rw [qo 15 (by decide) (by decide), h15]) hK hT hk2
  refine ⟨sR S2 9 m, ?_, ?_, ?_, hm2, ?_⟩
  · unfold fX3_setOwnTags
    rw [sto_n hd (by omega), bS, linesOf_n (T := T) (by rw [up_n (by decide), h14]) hT, bS, sto_n hd (by omega), bS, up_n (a := 5) (by decide), ← hS2, hm1, bS]
  · rw [sR_n (by decide), q0]
  · rw [sR_n (by decide), q1]
  · intro a h0 h1 h9
    rw [sR_n h9, qo a h0 h1]

