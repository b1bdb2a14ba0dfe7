/-! GUARDS, AND HOW THE RELATION GOES ON -/
theorem zg1 : zg (1 : Int32) = some 1 := by decide
theorem zg0 : zg (0 : Int32) = some 0 := by decide
theorem isIn_c {n : Nat} (hn : n < 2 ^ 31) (a : Int32) : (fX4_isIn a 0 (nI n - 1) = some 0 ∧ (a < 0 ∨ (¬ a < 0 ∧ ¬ a < nI n))) ∨ ∃ t, t < n ∧ a = nI t ∧ fX4_isIn a 0 (nI n - 1) = some 1 := by
  unfold fX4_isIn
  by_cases h : a < 0
  · exact Or.inl ⟨if_pos h, Or.inl h⟩
  · obtain ⟨t, ht, rfl⟩ := nI_of h
    rw [if_neg h]
    by_cases h2 : t < n
    · obtain ⟨m, rfl⟩ : ∃ m, n = m + 1 := ⟨n - 1, by omega⟩
      rw [nI_pred, if_neg (nI_nlt (by omega) (by omega))]
      exact Or.inr ⟨t, h2, rfl, rfl⟩
    · refine Or.inl ⟨?_, Or.inr ⟨h, nI_nlt (by omega) (by omega)⟩⟩
      cases n with
      | zero => rw [if_pos (by
          show (-1 : Int32) < nI t
          rw [Int32.lt_iff_toInt_lt, nI_toInt ht]
          have : (-1 : Int32).toInt = -1 := by decide
          omega)]
      | succ n => rw [nI_pred, if_pos (nI_lt (by omega) (by omega))]
theorem g_tag {X M : St} {T : Nat} (hX : X 14 0 = nI T) (hM : M 11 0 = nI T) (hT : T ≤ 16) (a : Int32) : (fX3_requireTag X a = some (Sum.inl IOB) ∧ fX4_isTag M a = some 0) ∨ ∃ t, t < T ∧ a = nI t ∧ fX3_requireTag X a = some (Sum.inr ()) ∧ fX4_isTag M a = some 1 := by
  unfold fX3_requireTag fX4_isTag
  rw [hX, hM]
  rcases isIn_c (n := T) (by omega) a with ⟨h1, h2⟩ | ⟨t, ht, rfl, h1⟩
  · rw [h1, bS, zg0, bS]
    refine Or.inl ⟨?_, rfl⟩
    rcases h2 with h2 | ⟨h2, h3⟩
    · exact if_pos h2
    · exact (if_neg h2).trans (if_neg h3)
  · rw [h1, bS, zg1, bS, if_neg (nI_pos (by omega)), if_pos (nI_lt ht (by omega))]
    exact Or.inr ⟨t, ht, rfl, rfl, rfl⟩
theorem g_dream {X M : St} {N : Nat} (hX : X 12 0 = nI N) (hM : M 12 0 = nI N) (hN : N ≤ 24) (a : Int32) : (fX3_requireDream X a = some (Sum.inl IOB) ∧ fX4_isDream M a = some 0) ∨ ∃ t, t < N ∧ a = nI t ∧ fX3_requireDream X a = some (Sum.inr ()) ∧ fX4_isDream M a = some 1 := by
  unfold fX3_requireDream fX4_isDream
  rw [hX, hM]
  rcases isIn_c (n := N) (by omega) a with ⟨h1, h2⟩ | ⟨t, ht, rfl, h1⟩
  · rw [h1, bS, zg0, bS]
    refine Or.inl ⟨?_, rfl⟩
    rcases h2 with h2 | ⟨h2, h3⟩
    · exact if_pos h2
    · exact (if_neg h2).trans (if_neg h3)
  · rw [h1, bS, zg1, bS, if_neg (nI_pos (by omega)), if_pos (nI_lt ht (by omega))]
    exact Or.inr ⟨t, ht, rfl, rfl, rfl⟩
theorem g_term {X M : St} {K : Nat} (hX : X 15 0 = nI K) (hM : M 13 0 = nI K) (hK : K ≤ 20) (a : Int32) : (fX3_requireTerm X a = some (Sum.inl IOB) ∧ fX4_isTerm M a = some 0) ∨ ∃ t, t < K ∧ a = nI t ∧ fX3_requireTerm X a = some (Sum.inr ()) ∧ fX4_isTerm M a = some 1 := by
  unfold fX3_requireTerm fX4_isTerm
  rw [hX, hM]
  rcases isIn_c (n := K) (by omega) a with ⟨h1, h2⟩ | ⟨t, ht, rfl, h1⟩
  · rw [h1, bS, zg0, bS]
    refine Or.inl ⟨?_, rfl⟩
    rcases h2 with h2 | ⟨h2, h3⟩
    · exact if_pos h2
    · exact (if_neg h2).trans (if_neg h3)
  · rw [h1, bS, zg1, bS, if_neg (nI_pos (by omega)), if_pos (nI_lt ht (by omega))]
    exact Or.inr ⟨t, ht, rfl, rfl, rfl⟩
/-- rows of the model that count -/
def mR (a : Nat) : Prop := a < 7 ∨ 10 < a ∧ a < 15
theorem xr_m {X M M' : St} {T N K : Nat} (h : XR X M T N K) (e : ∀ a, mR a → M' a = M a) : XR X M' T N K := by
  unfold XR at h ⊢
  rw [e 0 (by unfold mR; omega), e 1 (by unfold mR; omega), e 2 (by unfold mR; omega), e 3 (by unfold mR; omega), e 4 (by unfold mR; omega), e 5 (by unfold mR; omega), e 6 (by unfold mR; omega), e 11 (by unfold mR; omega), e 12 (by unfold mR; omega), e 13 (by unfold mR; omega), e 14 (by unfold mR; omega)]
  exact h
theorem xr_10 {X M : St} {T N K : Nat} (h : XR X M T N K) (v : Int32) : XR X (up M 10 0 v) T N K :=
  xr_m h (fun a ha => up_n (by unfold mR at ha; omega))
/-- rows of the class that count -/
theorem xi_x {X X' : St} {T N K : Nat} (h : XI X T N K) (e : ∀ a, a ≠ 10 → a ≠ 11 → X' a = X a) : XI X' T N K := by
  unfold XI XT XD XK0 XM at h ⊢
  rw [e 0 (by decide) (by decide), e 1 (by decide) (by decide), e 2 (by decide) (by decide), e 4 (by decide) (by decide), e 5 (by decide) (by decide), e 6 (by decide) (by decide), e 7 (by decide) (by decide), e 8 (by decide) (by decide), e 9 (by decide) (by decide), e 12 (by decide) (by decide), e 14 (by decide) (by decide), e 15 (by decide) (by decide)]
  exact h
theorem xr_x {X X' M : St} {T N K : Nat} (h : XR X M T N K) (e : ∀ a, a ≠ 10 → a ≠ 11 → X' a = X a) : XR X' M T N K := by
  unfold XR at h ⊢
  rw [e 0 (by decide) (by decide), e 2 (by decide) (by decide), e 3 (by decide) (by decide), e 4 (by decide) (by decide), e 6 (by decide) (by decide), e 7 (by decide) (by decide), e 8 (by decide) (by decide), e 13 (by decide) (by decide)]
  exact h
theorem rel_of {X M : St} {T N K : Nat} (hI : XI X T N K) (hR : XR X M T N K) : Rel X M := ⟨T, N, K, hI, hR⟩
theorem agR_ok {L : List String} {X M : St} {r : Int32} (h : Rel X M) (h0 : M 10 0 = 0) : AgR L X (Sum.inr r) r M := Or.inl ⟨rfl, h0, h⟩
theorem agR_no {L : List String} {E : String} {X M : St} {r c : Int32} {T N K : Nat} (hE : E ∈ L) (hc : c = hcd L E) (hI : XI X T N K) (hR : XR X M T N K) : AgR L X (Sum.inl E) r (up M 10 0 c) :=
  Or.inr ⟨E, rfl, hE, by rw [up_ss, hc], T, N, K, hI, xr_10 hR c⟩
theorem agW_ok {L : List String} {X M : St} {r : Int32} (h : Rel X M) (h0 : M 10 0 = 0) : AgW L (Sum.inr (r, X)) r M := Or.inl ⟨X, rfl, h0, h⟩
theorem agW_no {L : List String} {E : String} {X M : St} {r c : Int32} {T N K : Nat} (hE : E ∈ L) (hc : c = hcd L E) (hI : XI X T N K) (hR : XR X M T N K) : AgW L (Sum.inl (E, X)) r (up M 10 0 c) :=
  Or.inr ⟨E, X, rfl, hE, by rw [up_ss, hc], T, N, K, hI, xr_10 hR c⟩
/-- the model at the start of a call -/
theorem rel_s {X M : St} (h : Rel X M) : ∃ T N K M0, M0 = up M 10 0 0 ∧ M0 10 0 = 0 ∧ XI X T N K ∧ XR X M0 T N K := by
  obtain ⟨T, N, K, hI, hR⟩ := h
  exact ⟨T, N, K, up M 10 0 0, rfl, up_ss _ _ _ _, hI, xr_10 hR 0⟩
theorem tt_m {X M : St} {T N K : Nat} (hI : XI X T N K) (hR : XR X M T N K) : TT (M 0) (X 5) T := tt_congr hI.2.2.2.2.2.2.1 hI.1 hR.2.2.2.2.1 (fun _ _ => rfl)
theorem r_reck {X M : St} {T N K : Nat} (hI : XI X T N K) (hR : XR X M T N K) : ∃ M', fX4_reckon M = some M' ∧ (∀ d, d < N → M' 7 d = X 1 d) ∧ (∀ t, t < T → M' 8 t = dhf (X 1) t N) ∧ (∀ k, k < K → M' 9 k = X 9 k) ∧ (∀ a, a ≠ 7 → a ≠ 8 → a ≠ 9 → M' a = M a) ∧ XR X M' T N K := by
  have htm := tt_m hI hR
  obtain ⟨hT, hN, hK, h14, h12, h15, hXT, hXD, hXK, hXM⟩ := hI
  have hR' := hR
  obtain ⟨r11, r12, r13, r14, rt, rd, rk⟩ := hR
  have hs : ∀ k, k < K → tsh (M 4 k) (M 5 k) (M 6 k) T k := by
    intro k hk
    obtain ⟨e1, e2, e3⟩ := rk k hk
    rw [e1, e2]
    rcases xk_t hXK hk with q | ⟨q, q2, q3⟩ | q
    · exact Or.inl q
    · rw [e3 q]
      exact Or.inr (Or.inl ⟨q, q2, q3⟩)
    · exact Or.inr (Or.inr q)
  obtain ⟨M', h1, h2, h3, h4, h5⟩ := reckon_n (L := X 5) r11 hT r12 hN r13 hK htm (fun d hd i hi => hXD.2.1 d hd i (by rw [← (rd d hd).1]; exact hi)) hs
  have e7 : ∀ d, d < N → M' 7 d = X 1 d := fun d hd => by rw [h2 d hd, (rd d hd).1, hXD.2.2.2 d hd]
  have e8 : ∀ t, t < T → M' 8 t = dhf (X 1) t N := fun t ht => by
    rw [h3 t ht]
    exact dhf_congr (fun d hd => by rw [(rd d hd).1, hXD.2.2.2 d hd])
  have e9 : ∀ k, k < K → M' 9 k = X 9 k := fun k hk =>
    xm_one (kd := X 6) (a := X 7) (b := X 8) (kd' := M 4) (a' := M 5) (b' := M 6) (w := fun t => dhf (X 1) t N) (w' := M' 8) (al := allN N) hK hT (fun k hk => xk_t hXK hk) rk e8 (fun k hk => hXM k hk) h4 (k + 1) k (Nat.lt_succ_self k) hk
  exact ⟨M', h1, e7, e8, e9, h5, xr_m hR' (fun a ha => h5 a (by unfold mR at ha; omega) (by unfold mR at ha; omega) (by unfold mR at ha; omega))⟩
