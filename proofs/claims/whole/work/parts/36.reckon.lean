/-! THE MODEL RECKONS THE SAME -/
def hac (A : Nat → Int32) (o a0 : Int32) : Nat → Int32
  | 0 => a0
  | t + 1 => if bt o t = true then hac A o a0 t ||| A t else hac A o a0 t
theorem hac_b {A : Nat → Int32} {o a0 : Int32} (i : Nat) : ∀ (T : Nat), bt (hac A o a0 T) i = true ↔ bt a0 i = true ∨ ∃ t, t < T ∧ bt o t = true ∧ bt (A t) i = true := by
  intro T
  induction T with
  | zero =>
    constructor
    · intro h
      exact Or.inl h
    · rintro (h | ⟨t, ht, -⟩)
      · exact h
      · omega
  | succ T ih =>
    unfold hac
    constructor
    · intro h
      split at h
      · rename_i hb
        rw [b_or] at h
        rcases (Bool.or_eq_true _ _).mp h with h | h
        · rcases ih.mp h with h | ⟨t, h1, h2⟩
          · exact Or.inl h
          · exact Or.inr ⟨t, by omega, h2⟩
        · exact Or.inr ⟨T, by omega, hb, h⟩
      · rcases ih.mp h with h | ⟨t, h1, h2⟩
        · exact Or.inl h
        · exact Or.inr ⟨t, by omega, h2⟩
    · intro h
      have h4 : (bt a0 i = true ∨ ∃ t, t < T ∧ bt o t = true ∧ bt (A t) i = true) ∨ (bt o T = true ∧ bt (A T) i = true) := by
        rcases h with h | ⟨t, h1, h2, h3⟩
        · exact Or.inl (Or.inl h)
        · by_cases e : t = T
          · subst e
            exact Or.inr ⟨h2, h3⟩
          · exact Or.inl (Or.inr ⟨t, by omega, h2, h3⟩)
      rcases h4 with h4 | ⟨h5, h6⟩
      · have h7 := ih.mpr h4
        split
        · rw [b_or, h7]
          rfl
        · exact h7
      · rw [if_pos h5, b_or, h6, Bool.or_true]
theorem hac_ln {P L : Nat → Int32} {T : Nat} {o : Int32} (h : TT P L T) (hT : T ≤ 16) (ho : ∀ i, bt o i = true → i < T) : hac (ab P L) o o T = lnsf L o T := by
  refine bext fun i => ?_
  have key : bt (hac (ab P L) o o T) i = true ↔ bt (lnsf L o T) i = true := by
    rw [hac_b, lnsf_b]
    constructor
    · rintro (h1 | ⟨t, h1, h2, h3⟩)
      · exact ⟨i, ho i h1, h1, tt_self h hT (ho i h1)⟩
      · exact ⟨t, h1, h2, by rw [tt_b h hT h1, h3, Bool.or_true]⟩
    · rintro ⟨t, h1, h2, h3⟩
      rw [tt_b h hT h1] at h3
      rcases (Bool.or_eq_true _ _).mp h3 with h3 | h3
      · have : i = t := of_decide_eq_true h3
        subst this
        exact Or.inl h2
      · exact Or.inr ⟨t, h1, h2, h3⟩
  cases h1 : bt (hac (ab P L) o o T) i <;> cases h2 : bt (lnsf L o T) i
  · rfl
  · rw [h1, h2] at key
    exact absurd (key.mpr rfl) (by decide)
  · rw [h1, h2] at key
    exact absurd (key.mp rfl) (by decide)
  · rfl
theorem reck47 {S : St} {k : St → Int32 → Option St} {L : Nat → Int32} {T d : Nat} {a0 : Int32} (h11 : S 11 0 = nI T) (hT : T ≤ 16) (h : TT (S 0) L T) (hd : d < 24) (h7 : S 7 d = a0) :
    fX4_reckon_47 (nI d) k 100 S 0 = fX4_reckon_90 (nI d) k 100 (sR S 7 (upd (S 7) d (hac (ab (S 0) L) (S 1 d) a0 T))) 0 := by
  have key := loop100 (f := fX4_reckon_47 (nI d) k) (st := fun i => sR S 7 (upd (S 7) d (hac (ab (S 0) L) (S 1 d) a0 i))) (T := T) (r := fX4_reckon_90 (nI d) k 100 (sR S 7 (upd (S 7) d (hac (ab (S 0) L) (S 1 d) a0 T))) 0) (by omega) ?_ ?_
  · have e0 : sR S 7 (upd (S 7) d (hac (ab (S 0) L) (S 1 d) a0 0)) = S := by
      have : upd (S 7) d (hac (ab (S 0) L) (S 1 d) a0 0) = S 7 := by
        funext j
        unfold upd
        split
        · rename_i e
          rw [e, h7]
          rfl
        · rfl
      rw [this, sR_id]
    rw [e0] at key
    exact key
  · intro n
    rw [fX4_reckon_47, sR_n (a := 11) (by decide), h11, if_pos gT]
  · intro n i hi
    rw [fX4_reckon_47, sR_n (a := 11) (by decide), h11, if_neg (gL hi (by omega)), ld_n (by omega) (by omega), bS, sR_n (a := 1) (by decide), is_n (by omega), bS]
    show _ = fX4_reckon_47 (nI d) k n (sR S 7 (upd (S 7) d (if bt (S 1 d) i = true then hac (ab (S 0) L) (S 1 d) a0 i ||| ab (S 0) L i else hac (ab (S 0) L) (S 1 d) a0 i))) (nI (i + 1))
    cases hb : bt (S 1 d) i
    · rw [isF, if_pos rfl, if_neg (by decide), bS, nI_1]
    · rw [if_pos rfl, if_neg (by decide), if_pos rfl, ld_n (by omega) (by omega), bS, above_n (L := L) hT (by rw [sR_n (a := 0) (by decide)]; exact h) hi, bS, sto_n (by omega) (by omega), bS, bS, nI_1, up_sR, sR_s, upd_s, sR_n (a := 0) (by decide)]
      congr 2
      funext j
      unfold upd
      split <;> rfl
theorem reck90 {S : St} {k : St → Int32 → Option St} {T d : Nat} (h11 : S 11 0 = nI T) (hT : T ≤ 16) (hd : d < 24) :
    fX4_reckon_90 (nI d) k 100 S 0 = k (sR S 8 (fil (fun t => if bt (S 7 d) t = true then S 8 t ||| sb d else S 8 t) (S 8) T)) (nI (d + 1)) := by
  have key := loop100 (f := fX4_reckon_90 (nI d) k) (st := fun i => sR S 8 (fil (fun t => if bt (S 7 d) t = true then S 8 t ||| sb d else S 8 t) (S 8) i)) (T := T) (r := k (sR S 8 (fil (fun t => if bt (S 7 d) t = true then S 8 t ||| sb d else S 8 t) (S 8) T)) (nI (d + 1))) (by omega) ?_ ?_
  · rw [fil_0, sR_id] at key
    exact key
  · intro n
    rw [fX4_reckon_90, sR_n (a := 11) (by decide), h11, if_pos gT, bS, nI_1]
  · intro n i hi
    rw [fX4_reckon_90, sR_n (a := 11) (by decide), h11, if_neg (gL hi (by omega)), ld_n (by omega) (by omega), bS, sR_n (a := 7) (by decide), is_n (by omega), bS]
    have hs := fil_s (fun t => if bt (S 7 d) t = true then S 8 t ||| sb d else S 8 t) (S 8) i
    cases hb : bt (S 7 d) i
    · rw [isF, if_pos rfl, bS, nI_1]
      congr 1
      rw [← hs]
      show _ = sR S 8 (upd _ i (if bt (S 7 d) i = true then S 8 i ||| sb d else S 8 i))
      rw [hb, if_neg (by decide)]
      congr 1
      funext j
      unfold upd
      split
      · rename_i e
        rw [e, fil_out (Nat.lt_irrefl i)]
      · rfl
    · rw [if_pos rfl, if_neg (by decide), ld_n (by omega) (by omega), bS, sto_n (by omega) (by omega), bS, bS, nI_1, up_sR, sR_s, fil_out (Nat.lt_irrefl i), ← hs]
      show fX4_reckon_90 (nI d) k n (sR S 8 (upd _ i (S 8 i ||| sb d))) _ = fX4_reckon_90 (nI d) k n (sR S 8 (upd _ i (if bt (S 7 d) i = true then S 8 i ||| sb d else S 8 i))) _
      rw [hb, if_pos rfl]
theorem reck137 {S : St} {N K T : Nat} (h12 : S 12 0 = nI N) (h13 : S 13 0 = nI K) (hK : K ≤ 20) (hT : T ≤ 16) (hs : ∀ k, k < K → tsh (S 4 k) (S 5 k) (S 6 k) T k) : fX4_reckon_137 100 S 0 = some (sR S 9 (mrow (S 4) (S 5) (S 6) (S 8) (allN N) (S 9) K)) := by
  have key := loop100 (f := fX4_reckon_137) (st := fun i => sR S 9 (mrow (S 4) (S 5) (S 6) (S 8) (allN N) (S 9) i)) (T := K) (r := some (sR S 9 (mrow (S 4) (S 5) (S 6) (S 8) (allN N) (S 9) K))) (by omega) ?_ ?_
  · rw [show sR S 9 (mrow (S 4) (S 5) (S 6) (S 8) (allN N) (S 9) 0) = S from sR_id S 9] at key
    exact key
  · intro n
    rw [fX4_reckon_137, sR_n (by decide), h13, if_pos gT]
  · intro n i hi
    have hts := hs i hi
    have goal9 : sR S 9 (mrow (S 4) (S 5) (S 6) (S 8) (allN N) (S 9) (i + 1)) = sR S 9 (upd (mrow (S 4) (S 5) (S 6) (S 8) (allN N) (S 9) i) i (mstep (S 4 i) (S 5 i) (S 6 i) (S 8) (mrow (S 4) (S 5) (S 6) (S 8) (allN N) (S 9) i) (allN N))) := rfl
    rw [goal9]
    generalize mrow (S 4) (S 5) (S 6) (S 8) (allN N) (S 9) i = mm
    have l4 : ld (sR S 9 mm) 4 20 (nI i) = some (S 4 i) := by rw [ld_n (by omega) (by omega), sR_n (a := 4) (by decide)]
    have l5 : ld (sR S 9 mm) 5 20 (nI i) = some (S 5 i) := by rw [ld_n (by omega) (by omega), sR_n (a := 5) (by decide)]
    have l6 : ld (sR S 9 mm) 6 20 (nI i) = some (S 6 i) := by rw [ld_n (by omega) (by omega), sR_n (a := 6) (by decide)]
    have l9 : ∀ x, x < 20 → ld (sR S 9 mm) 9 20 (nI x) = some (mm x) := fun x hx => by rw [ld_n hx (by omega), sR_s]
    have st9 : ∀ v, sto (sR S 9 mm) 9 20 (nI i) v = some (sR S 9 (upd mm i v)) := fun v => by rw [sto_n (by omega) (by omega), up_sR]
    rw [fX4_reckon_137, sR_n (a := 13) (by decide), h13, if_neg (gL hi (by omega)), l4, bS]
    rcases hts with ⟨h0, t, ht, e5⟩ | ⟨h1, ⟨x, hx, ex⟩, y, hy, ey⟩ | ⟨h1, x, hx, ex⟩
    · rw [if_pos h0, l5, bS, e5, ld_n (by omega) (by omega), bS, sR_n (a := 8) (by decide), st9, bS, bS, nI_1]
      unfold mstep
      rw [if_pos h0, nI_clamp (by omega)]
    · have h0 : S 4 i ≠ 0 := by rcases h1 with q | q <;> (rw [q]; decide)
      unfold mstep
      rw [if_neg h0, if_neg h0, bS]
      rcases h1 with q | q
      · rw [if_pos q, if_pos q, l5, bS, ex, l9 x (by omega), bS, l6, bS, ey, l9 y (by omega), bS, st9, bS, bS, nI_1, nI_clamp (by omega), nI_clamp (by omega)]
      · have q1 : S 4 i ≠ 1 := by rw [q]; decide
        rw [if_neg q1, if_neg q1, bS, if_pos q, if_pos q, l5, bS, ex, l9 x (by omega), bS, l6, bS, ey, l9 y (by omega), bS, st9, bS, bS, nI_1, nI_clamp (by omega), nI_clamp (by omega)]
    · have h0 : S 4 i ≠ 0 := by rw [h1]; decide
      have q1 : S 4 i ≠ 1 := by rw [h1]; decide
      have q2 : S 4 i ≠ 2 := by rw [h1]; decide
      unfold mstep
      rw [if_neg h0, if_neg h0, bS, if_neg q1, if_neg q1, bS, if_neg q2, if_neg q2, l5, bS, ex, l9 x (by omega), bS, st9, bS, bS, nI_1, sR_n (a := 12) (by decide), h12, nI_clamp (by omega), Int32.and_comm]
      rfl
theorem reckon_n {M : St} {L : Nat → Int32} {T N K : Nat} (h11 : M 11 0 = nI T) (hT : T ≤ 16) (h12 : M 12 0 = nI N) (hN : N ≤ 24) (h13 : M 13 0 = nI K) (hK : K ≤ 20) (h : TT (M 0) L T) (ho : ∀ d, d < N → ∀ i, bt (M 1 d) i = true → i < T) (hs : ∀ k, k < K → tsh (M 4 k) (M 5 k) (M 6 k) T k) :
    ∃ M', fX4_reckon M = some M' ∧ (∀ d, d < N → M' 7 d = lnsf L (M 1 d) T) ∧ (∀ t, t < T → M' 8 t = dhf (fun d => lnsf L (M 1 d) T) t N) ∧ (∀ k, k < K → M' 9 k = mstep (M 4 k) (M 5 k) (M 6 k) (M' 8) (M' 9) (allN N)) ∧ ∀ a, a ≠ 7 → a ≠ 8 → a ≠ 9 → M' a = M a := by
  obtain ⟨st, hst⟩ : ∃ st : Nat → St, st = fun d => sR (sR M 7 (fil (fun d => lnsf L (M 1 d) T) (M 7) d)) 8 (fil (fun t => dhf (fun d => lnsf L (M 1 d) T) t d) (M 8) T) := ⟨_, rfl⟩
  have r8 : ∀ d, st d 8 = fil (fun t => dhf (fun d => lnsf L (M 1 d) T) t d) (M 8) T := fun d => by rw [hst]; exact sR_s _ _ _
  have r7 : ∀ d, st d 7 = fil (fun d => lnsf L (M 1 d) T) (M 7) d := fun d => by rw [hst]; exact (sR_n (by decide)).trans (sR_s _ _ _)
  have ro : ∀ d a, a ≠ 7 → a ≠ 8 → st d a = M a := fun d a h7 h8 => by rw [hst]; exact (sR_n h8).trans (sR_n h7)
  have hst0 : st 0 = sR M 8 (fil (fun _ => 0) (M 8) T) := by
    rw [hst]
    show sR (sR M 7 (fil _ (M 7) 0)) 8 _ = _
    rw [fil_0, sR_id]
    rfl
  refine ⟨sR (st N) 9 (mrow (M 4) (M 5) (M 6) (st N 8) (allN N) (M 9) K), ?_, ?_, ?_, ?_, ?_⟩
  · have key25 : fX4_reckon_25 100 (st 0) 0 = some (sR (st N) 9 (mrow (M 4) (M 5) (M 6) (st N 8) (allN N) (M 9) K)) := by
      refine loop100 (f := fX4_reckon_25) (st := st) (T := N) (by omega) ?_ ?_
      · intro n
        have h137 := reck137 (S := st N) (N := N) (K := K) (T := T) (by rw [ro N 12 (by decide) (by decide), h12]) (by rw [ro N 13 (by decide) (by decide), h13]) hK hT (by rw [ro N 4 (by decide) (by decide), ro N 5 (by decide) (by decide), ro N 6 (by decide) (by decide)]; exact hs)
        rw [ro N 4 (by decide) (by decide), ro N 5 (by decide) (by decide), ro N 6 (by decide) (by decide), ro N 9 (by decide) (by decide)] at h137
        rw [fX4_reckon_25, ro N 12 (by decide) (by decide), h12, if_pos gT, h137]
      · intro n d hd
        rw [fX4_reckon_25, ro d 12 (by decide) (by decide), h12, if_neg (gL hd (by omega)), ld_n (by omega) (by omega), bS, ro d 1 (by decide) (by decide), sto_n (by omega) (by omega), bS]
        rw [reck47 (L := L) (T := T) (a0 := M 1 d) (by rw [up_n (by decide), ro d 11 (by decide) (by decide), h11]) hT (by rw [up_n (by decide), ro d 0 (by decide) (by decide)]; exact h) (by omega) (up_ss _ _ _ _)]
        rw [reck90 (T := T) (by rw [sR_n (by decide), up_n (by decide), ro d 11 (by decide) (by decide), h11]) hT (by omega)]
        congr 1
        have e1 : (up (st d) 7 d (M 1 d)) 1 = M 1 := by rw [up_n (by decide), ro d 1 (by decide) (by decide)]
        have e0 : (up (st d) 7 d (M 1 d)) 0 = M 0 := by rw [up_n (by decide), ro d 0 (by decide) (by decide)]
        have e7 : (up (st d) 7 d (M 1 d)) 7 = upd (fil (fun d => lnsf L (M 1 d) T) (M 7) d) d (M 1 d) := by rw [up_s, r7]
        have e8 : (up (st d) 7 d (M 1 d)) 8 = fil (fun t => dhf (fun d => lnsf L (M 1 d) T) t d) (M 8) T := by rw [up_n (by decide), r8]
        rw [e1, e0, hac_ln h hT (ho d hd)]
        have e77 : upd ((up (st d) 7 d (M 1 d)) 7) d (lnsf L (M 1 d) T) = fil (fun d => lnsf L (M 1 d) T) (M 7) (d + 1) := by
          rw [e7, ← fil_s (fun d => lnsf L (M 1 d) T)]
          funext j
          unfold upd
          split <;> rfl
        rw [e77, sR_s, sR_n (a := 8) (by decide), e8]
        funext a
        by_cases h8 : a = 8
        · subst h8
          rw [sR_s, r8]
          funext t
          by_cases ht : t < T
          · rw [fil_in ht, fil_in ht, fil_in ht, fil_in (Nat.lt_succ_self d)]
            rfl
          · rw [fil_out ht, fil_out ht, fil_out ht]
        · rw [sR_n h8]
          by_cases h7 : a = 7
          · subst h7
            rw [sR_s, r7]
          · rw [sR_n h7, up_n h7, ro d a h7 h8, ro (d + 1) a h7 h8]
    unfold fX4_reckon
    have key2 := loop100 (f := fX4_reckon_2) (st := fun i => sR M 8 (fil (fun _ => 0) (M 8) i)) (T := T) (r := some (sR (st N) 9 (mrow (M 4) (M 5) (M 6) (st N 8) (allN N) (M 9) K))) (by omega) ?_ ?_
    · rw [fil_0, sR_id] at key2
      exact key2
    · intro n
      rw [fX4_reckon_2, sR_n (a := 11) (by decide), h11, if_pos gT, ← hst0, key25]
    · intro n i hi
      rw [fX4_reckon_2, sR_n (a := 11) (by decide), h11, if_neg (gL hi (by omega)), sto_n (by omega) (by omega), bS, bS, nI_1, up_sR, fil_s (fun _ => 0)]
  · intro d hd
    rw [sR_n (by decide), r7, fil_in hd]
  · intro t ht
    rw [sR_n (by decide), r8, fil_in ht]
  · intro k hk
    rw [sR_s, sR_n (by decide), mrow_eq _ _ _ _ _ _ hk]
    exact mstep_c (hs k hk) (by omega) hT (fun _ _ => rfl) (fun j hj => (mrow_lo _ _ _ _ _ _ hj (by omega)).symm)
  · intro a h7 h8 h9
    rw [sR_n h9, ro N a h7 h8]
