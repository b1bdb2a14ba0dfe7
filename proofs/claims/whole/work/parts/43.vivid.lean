/-! THE MEAN, AND WHAT CHANGES THE VIVIDNESS -/
theorem op_meanVividness {X M : St} (h : Rel X M) : ∃ r M1, fX3_meanVividness X = some r ∧ fX4_meanVividness M = some (r, M1) ∧ Rel X M1 ∧ FP.dcmp r r = some .eq := by
  obtain ⟨T, N, K, M0, e0, z0, hI, hR⟩ := rel_s h
  have hI' := hI
  obtain ⟨hT, hN, hK, h14, h12, h15, hXT, hXD, hXK, hXM⟩ := hI
  by_cases hz : N = 0
  · refine ⟨0, M0, ?_, ?_, rel_of hI' hR, by decide +kernel⟩
    · unfold fX3_meanVividness
      rw [h12, hz]
      rfl
    · unfold fX4_meanVividness
      rw [← e0, bS, show (100 : Nat) = 99 + 1 from rfl, fX4_meanVividness_9, hR.2.1, hz]
      rfl
  · have hs : sm (vv X) N < 217 := by
      have := sm_le N (fun i hi => (vv_n hXD hi).2)
      omega
    have hk : okd (sm (vv X) N) N = true := by
      rcases dv_all N (by omega) with q | q
      · exact absurd q hz
      · exact q _ hs
    unfold okd at hk
    cases hd : dv (FP.i2d (nI (sm (vv X) N))) (FP.i2d (nI N)) with
    | none =>
      rw [hd] at hk
      cases hk
    | some r =>
      rw [hd] at hk
      refine ⟨r, M0, ?_, ?_, rel_of hI' hR, of_decide_eq_true hk⟩
      · unfold fX3_meanVividness
        rw [h12, if_neg (nI_ne0 (by omega) (by omega))]
        refine loop100 (f := fX3_meanVividness_13 X) (st := fun i => nI (sm (vv X) i)) (T := N) (by omega) ?_ ?_
        · intro n
          rw [fX3_meanVividness_13, h12, if_pos gT, hd, bS]
        · intro n i hi
          rw [fX3_meanVividness_13, h12, if_neg (gL hi (by omega)), ld_n (by omega) (by omega), bS, bS, bS, nI_1, (vv_n hXD hi).1, nI_add]
          rfl
      · unfold fX4_meanVividness
        rw [← e0, bS]
        refine loop100 (f := fun n x i => fX4_meanVividness_9 n M0 x i) (st := fun i => nI (sm (vv X) i)) (T := N) (by omega) ?_ ?_
        · intro n
          show fX4_meanVividness_9 (n + 1) M0 _ _ = _
          rw [fX4_meanVividness_9, hR.2.1, if_pos gT, if_neg (nI_ne0 (by omega) (by omega)), hd, bS]
        · intro n i hi
          show fX4_meanVividness_9 (n + 1) M0 _ _ = fX4_meanVividness_9 n M0 _ _
          rw [fX4_meanVividness_9, hR.2.1, if_neg (gL hi (by omega)), ld_n (by omega) (by omega), bS, bS, bS, nI_1, (hR.2.2.2.2.2.1 i hi).2.1, (vv_n hXD hi).1, nI_add]
          rfl
theorem xi_2 {X X' : St} {T N K : Nat} (h : XI X T N K) (e : ∀ a, a ≠ 2 → a ≠ 13 → X' a = X a) (hv : ∀ d, d < N → ∃ v, v ≤ 9 ∧ X' 2 d = nI v) : XI X' T N K := by
  unfold XI XT XD XK0 XM at h ⊢
  rw [e 0 (by decide) (by decide), e 1 (by decide) (by decide), e 4 (by decide) (by decide), e 5 (by decide) (by decide), e 6 (by decide) (by decide), e 7 (by decide) (by decide), e 8 (by decide) (by decide), e 9 (by decide) (by decide), e 12 (by decide) (by decide), e 14 (by decide) (by decide), e 15 (by decide) (by decide)]
  obtain ⟨h1, h2, h3, h4, h5, h6, h7, ⟨h8, h9, -, h11⟩, h12⟩ := h
  exact ⟨h1, h2, h3, h4, h5, h6, h7, ⟨h8, h9, hv, h11⟩, h12⟩
theorem g_r (lo : Nat) (hi : Nat) (hlo : lo ≤ 1) (hhi : hi < 100) (a : Int32) : (fX4_isIn a (nI lo) (nI hi) = some 0 ∧ (a < nI lo ∨ (¬ a < nI lo ∧ ¬ a ≤ nI hi))) ∨ ∃ n, n ≤ hi ∧ a = nI n ∧ ¬ a < nI lo ∧ a ≤ nI hi ∧ fX4_isIn a (nI lo) (nI hi) = some 1 := by
  unfold fX4_isIn
  by_cases h : a < nI lo
  · rw [if_pos h]
    exact Or.inl ⟨rfl, Or.inl h⟩
  · rw [if_neg h]
    by_cases h2 : a ≤ nI hi
    · rw [if_neg (Int32.not_lt.mpr h2)]
      have h0 : ¬ a < 0 := fun q => h (by
        rw [Int32.lt_iff_toInt_lt] at q ⊢
        rw [nI_toInt (by omega)]
        have : (0 : Int32).toInt = 0 := by decide
        omega)
      obtain ⟨n, hn, rfl⟩ := nI_of2 (x := a) (M := nI hi) (n := hi) (nI_toInt (by omega)) h0 h2
      exact Or.inr ⟨n, hn, rfl, h, h2, rfl⟩
    · rw [if_pos (Int32.not_le.mp h2)]
      exact Or.inl ⟨rfl, Or.inr ⟨h, h2⟩⟩
theorem xr_2 {X X' M M' : St} {T N K : Nat} (h : XR X M T N K) (e : ∀ a, a ≠ 2 → a ≠ 13 → X' a = X a) (em : ∀ a, a ≠ 2 → a ≠ 14 → mR a → M' a = M a) (e14 : M' 14 0 = X' 13 0) (e2 : ∀ d, d < N → M' 2 d = X' 2 d) : XR X' M' T N K := by
  unfold XR at h ⊢
  rw [e 0 (by decide) (by decide), e 3 (by decide) (by decide), e 4 (by decide) (by decide), e 6 (by decide) (by decide), e 7 (by decide) (by decide), e 8 (by decide) (by decide), em 0 (by decide) (by decide) (by unfold mR; omega), em 1 (by decide) (by decide) (by unfold mR; omega), em 3 (by decide) (by decide) (by unfold mR; omega), em 4 (by decide) (by decide) (by unfold mR; omega), em 5 (by decide) (by decide) (by unfold mR; omega), em 6 (by decide) (by decide) (by unfold mR; omega), em 11 (by decide) (by decide) (by unfold mR; omega), em 12 (by decide) (by decide) (by unfold mR; omega), em 13 (by decide) (by decide) (by unfold mR; omega)]
  obtain ⟨h1, h2, h3, -, h5, h6, h7⟩ := h
  exact ⟨h1, h2, h3, e14, h5, fun d hd => ⟨(h6 d hd).1, e2 d hd, (h6 d hd).2.2⟩, h7⟩
theorem op_recall {X M : St} (a1 a2 : Int32) (h : Rel X M) : ∃ R r M1, fX3_recall X a1 a2 = some R ∧ fX4_recall M a1 a2 = some (r, M1) ∧ AgW [IOB, IAE] R r M1 := by
  obtain ⟨T, N, K, M0, e0, z0, hI, hR⟩ := rel_s h
  have hI' := hI
  obtain ⟨hT, hN, hK, h14, h12, h15, hXT, hXD, hXK, hXM⟩ := hI
  rcases g_dream h12 hR.2.1 hN a1 with ⟨g0, m0⟩ | ⟨d, hd, rfl, g0, m0⟩
  · exact ⟨Sum.inl (IOB, X), 0, up M0 10 0 1, by unfold fX3_recall; rw [g0]; rfl, by unfold fX4_recall; rw [← e0, bS, m0]; rfl, agW_no (by decide) (by decide) hI' hR⟩
  · rcases g_r 0 9 (by omega) (by omega) a2 with ⟨m1, g1⟩ | ⟨n, hn, rfl, g1, g2, m1⟩
    · refine ⟨Sum.inl (IAE, X), 0, up M0 10 0 2, ?_, ?_, agW_no (by decide) (by decide) hI' hR⟩
      · unfold fX3_recall
        rw [g0, bS, xb_i]
        rcases g1 with g1 | ⟨g1, g2⟩
        · exact if_pos g1
        · exact (if_neg g1).trans (if_neg g2)
      · unfold fX4_recall
        rw [← e0, bS, m0, bS, if_neg n10, show fX4_isIn a2 0 9 = some 0 from m1, bS, if_pos rfl]
        rfl
    · refine ⟨Sum.inr (X 2 d, up X 2 d (nI n)), X 2 d, up M0 2 d (nI n), ?_, ?_, agW_ok (rel_of (T := T) (N := N) (K := K) ?_ ?_) ?_⟩
      · unfold fX3_recall
        rw [g0, bS, xb_i]
        refine (if_neg g1).trans ((if_pos g2).trans ?_)
        rw [ld_n (by omega) (by omega), bS, sto_n (by omega) (by omega), bS]
      · unfold fX4_recall
        rw [← e0, bS, m0, bS, if_neg n10, show fX4_isIn (nI n) 0 9 = some 1 from m1, bS, if_neg n10, ld_n (by omega) (by omega), bS, sto_n (by omega) (by omega), bS, (hR.2.2.2.2.2.1 d hd).2.1]
      · refine xi_2 hI' (fun a h2 _ => up_n h2) (fun j hj => ?_)
        by_cases e : j = d
        · subst e
          exact ⟨n, hn, up_ss _ _ _ _⟩
        · rw [up_sn e]
          exact hXD.2.2.1 j hj
      · refine xr_2 hR (fun a h2 _ => up_n h2) (fun a h2 _ _ => up_n h2) ?_ (fun j hj => ?_)
        · rw [up_n (by decide), up_n (by decide)]
          exact hR.2.2.2.1
        · by_cases e : j = d
          · subst e
            rw [up_ss, up_ss]
          · rw [up_sn e, up_sn e]
            exact (hR.2.2.2.2.2.1 j hj).2.1
      · rw [up_n (by decide), z0]
theorem op_passNights {X M : St} (a1 : Int32) (h : Rel X M) : ∃ R r M1, fX3_passNights X a1 = some R ∧ fX4_passNights M a1 = some (r, M1) ∧ AgW [IAE] R r M1 := by
  obtain ⟨T, N, K, M0, e0, z0, hI, hR⟩ := rel_s h
  have hI' := hI
  obtain ⟨hT, hN, hK, h14, h12, h15, hXT, hXD, hXK, hXM⟩ := hI
  rcases g_nights X a1 with ⟨g0, m0⟩ | ⟨n, hn, rfl, g0, m0⟩
  · exact ⟨Sum.inl (IAE, X), 0, up M0 10 0 1, by unfold fX3_passNights; rw [g0]; rfl, by unfold fX4_passNights; rw [← e0, bS, m0]; rfl, agW_no (by decide) (by decide) hI' hR⟩
  · obtain ⟨X2, hX2⟩ : ∃ z, z = up (sR X 2 (fil (fun d => va (X 0) (X 2) N d (nI n)) (X 2) N)) 13 0 (X 13 0 + nI n) := ⟨_, rfl⟩
    obtain ⟨M2, hM2⟩ : ∃ z, z = up (sR M0 2 (fil (fun d => va (M0 1) (M0 2) N d (nI n)) (M0 2) N)) 14 0 (M0 14 0 + nI n) := ⟨_, rfl⟩
    have x2 : X2 2 = fil (fun d => va (X 0) (X 2) N d (nI n)) (X 2) N := by rw [hX2, up_n (by decide), sR_s]
    have xo : ∀ a, a ≠ 2 → a ≠ 13 → X2 a = X a := fun a h2 h3 => by rw [hX2, up_n h3, sR_n h2]
    have y2 : M2 2 = fil (fun d => va (M0 1) (M0 2) N d (nI n)) (M0 2) N := by rw [hM2, up_n (by decide), sR_s]
    have yo : ∀ a, a ≠ 2 → a ≠ 14 → M2 a = M0 a := fun a h2 h3 => by rw [hM2, up_n h3, sR_n h2]
    have hI2 : XI X2 T N K := by
      refine xi_2 hI' xo (fun d hd => ?_)
      rw [x2, fil_in hd]
      exact va_n (hXD.2.2.1 d hd) hn
    have ho : ∀ d, d < N → M0 1 d ≠ 0 := fun d hd => by rw [(hR.2.2.2.2.2.1 d hd).1]; exact hXD.1 d hd
    have hR2 : XR X2 M2 T N K := by
      refine xr_2 hR xo (fun a h2 h3 _ => yo a h2 h3) ?_ (fun d hd => ?_)
      · rw [hX2, hM2, up_ss, up_ss, hR.2.2.2.1]
      · rw [x2, y2, fil_in hd, fil_in hd]
        exact va_congr (fun d hd => ⟨(hR.2.2.2.2.2.1 d hd).1, (hR.2.2.2.2.2.1 d hd).2.1⟩) _ hd
    refine ⟨Sum.inr (nI (fdc (X2 0) (X2 2) N 0 N), X2), nI (fdc (X2 0) (X2 2) N 0 N), M2, ?_, ?_, agW_ok (rel_of hI2 hR2) (by rw [yo 10 (by decide) (by decide), z0])⟩
    · unfold fX3_passNights
      rw [g0, bS, xb_i]
      have key := loop100 (f := fX3_passNights_7 (nI n)) (st := fun i => sR X 2 (fil (fun d => va (X 0) (X 2) N d (nI n)) (X 2) i)) (T := N) (r := some (Sum.inr (nI (fdc (X2 0) (X2 2) N 0 N), X2))) (by omega) ?_ ?_
      · rw [fil_0, sR_id] at key
        exact key
      · intro m
        rw [fX3_passNights_7, sR_n (a := 12) (by decide), h12, if_pos gT, bS, sR_n (a := 13) (by decide), ← hX2, countFaded_n hI2.2.2.2.2.1 hN, bS]
      · intro m i hi
        rw [fX3_passNights_7, sR_n (a := 12) (by decide), h12, if_neg (gL hi (by omega)), vivAfter_n (by rw [sR_n (a := 12) (by decide), h12]) hN hi, bS, sto_n (by omega) (by omega), bS, bS, nI_1, up_sR, sR_n (a := 0) (by decide), sR_s]
        have e : va (X 0) (fil (fun d => va (X 0) (X 2) N d (nI n)) (X 2) i) N i (nI n) = va (X 0) (X 2) N i (nI n) := by
          unfold va
          rw [fil_out (Nat.lt_irrefl i)]
        rw [e, fil_s (fun d => va (X 0) (X 2) N d (nI n))]
    · unfold fX4_passNights
      rw [← e0, bS, m0, bS, if_neg n10]
      have key := loop100 (f := fX4_passNights_23 (nI n)) (st := fun i => sR M0 2 (fil (fun d => va (M0 1) (M0 2) N d (nI n)) (M0 2) i)) (T := N) (r := some (nI (fdc (X2 0) (X2 2) N 0 N), M2)) (by omega) ?_ ?_
      · rw [fil_0, sR_id] at key
        exact key
      · intro m
        rw [fX4_passNights_23, sR_n (a := 12) (by decide), hR.2.1, if_pos gT, bS, sR_n (a := 14) (by decide), ← hM2, fd_x hI2 hR2, bS]
      · intro m i hi
        rw [fX4_passNights_23, sR_n (a := 12) (by decide), hR.2.1, if_neg (gL hi (by omega)), later_n (N := N) (by rw [sR_n (a := 12) (by decide), hR.2.1]) hN (by rw [sR_n (a := 1) (by decide)]; exact ho i hi) hi, bS, sto_n (by omega) (by omega), bS, bS, nI_1, up_sR, sR_n (a := 1) (by decide), sR_s]
        have e : va (M0 1) (fil (fun d => va (M0 1) (M0 2) N d (nI n)) (M0 2) i) N i (nI n) = va (M0 1) (M0 2) N i (nI n) := by
          unfold va
          rw [fil_out (Nat.lt_irrefl i)]
        rw [e, fil_s (fun d => va (M0 1) (M0 2) N d (nI n))]
