/-! TAGS MOVE -/
theorem r_move {X M : St} {T N K t : Nat} {pa : Int32} {L : Nat → Int32} (hI : XI X T N K) (hR : XR X M T N K) (ht : t < T) (h : TT (upd (X 4) t pa) L T) :
    ∃ X', fX3_moveTag X (nI t) pa = some X' ∧ X' 4 = upd (X 4) t pa ∧ (∀ i, i < T → X' 5 i = L i) ∧ XI X' T N K ∧ XR X' (up M 0 t pa) T N K := by
  obtain ⟨hT, hN, hK, h14, h12, h15, hXT, hXD, hXK, hXM⟩ := hI
  obtain ⟨r11, r12, r13, r14, rt, rd, rk⟩ := hR
  obtain ⟨X', q1, x4, x5, x1, xm, xo⟩ := moveTag_n (pa := pa) h14 hT h12 hN h15 hK hXK (show t < 16 by omega) h
  have o0 : X' 0 = X 0 := xo 0 (by decide) (by decide) (by decide) (by decide)
  have o2 : X' 2 = X 2 := xo 2 (by decide) (by decide) (by decide) (by decide)
  have o3 : X' 3 = X 3 := xo 3 (by decide) (by decide) (by decide) (by decide)
  have o6 : X' 6 = X 6 := xo 6 (by decide) (by decide) (by decide) (by decide)
  have o7 : X' 7 = X 7 := xo 7 (by decide) (by decide) (by decide) (by decide)
  have o8 : X' 8 = X 8 := xo 8 (by decide) (by decide) (by decide) (by decide)
  refine ⟨X', q1, x4, x5, ⟨hT, hN, hK, ?_, ?_, ?_, ?_, ⟨?_, ?_, ?_, ?_⟩, ?_, xm⟩, ⟨?_, ?_, ?_, ?_, ?_, ?_, ?_⟩⟩
  · rw [xo 14 (by decide) (by decide) (by decide) (by decide), h14]
  · rw [xo 12 (by decide) (by decide) (by decide) (by decide), h12]
  · rw [xo 15 (by decide) (by decide) (by decide) (by decide), h15]
  · unfold XT
    rw [x4]
    exact tt_congr h hT (fun _ _ => rfl) x5
  · rw [o0]; exact hXD.1
  · rw [o0]; exact hXD.2.1
  · rw [o2]; exact hXD.2.2.1
  · intro d hd
    rw [x1 d hd, o0]
    exact lnsf_congr (fun i hi => (x5 i hi).symm)
  · unfold XK0
    rw [o6, o7, o8]
    exact hXK
  · rw [up_n (by decide), r11]
  · rw [up_n (by decide), r12]
  · rw [up_n (by decide), r13]
  · rw [up_n (by decide), r14, xo 13 (by decide) (by decide) (by decide) (by decide)]
  · intro i hi
    rw [x4, up_s]
    by_cases e : i = t
    · rw [e, upd_s, upd_s]
    · rw [upd_n e, upd_n e]
      exact rt i hi
  · rw [up_n (by decide), up_n (by decide), up_n (by decide), o0, o2, o3]
    exact rd
  · rw [up_n (by decide), up_n (by decide), up_n (by decide), o6, o7, o8]
    exact rk
theorem canHang_n {X : St} {T : Nat} (h : TT (X 4) (X 5) T) (hT : T ≤ 16) {t p : Nat} (ht : t < T) (hp : p < T) : fX1_canHang X (nI t) (nI p) = some (if t = p then 0 else if bt (ab (X 4) (X 5) p) t = true then 0 else 1) := by
  unfold fX1_canHang
  by_cases e : t = p
  · rw [if_pos e, e, if_pos rfl]
  · rw [if_neg e, if_neg (fun q => e ((nI_eq (by omega) (by omega)).mp q)), standsBelow_n h hT hp (by omega), bS]
    cases bt (ab (X 4) (X 5) p) t <;> rfl
/-- the guard of a place under a tag -/
theorem gx_put {X M : St} {T N K : Nat} (hI : XI X T N K) (hR : XR X M T N K) (a b : Int32) :
    (fX3_requirePlaceUnder X a b = some (Sum.inl IOB) ∧ fX4_canPut M a b = some (0, up M 10 0 1)) ∨
    (fX3_requirePlaceUnder X a b = some (Sum.inl IAE) ∧ fX4_canPut M a b = some (0, up M 10 0 2)) ∨
    (fX3_requirePlaceUnder X a b = some (Sum.inl ISE) ∧ fX4_canPut M a b = some (0, up M 10 0 3)) ∨
    ∃ t p, t < T ∧ p < T ∧ a = nI t ∧ b = nI p ∧ bt (X 5 p) t = false ∧ fX3_requirePlaceUnder X a b = some (Sum.inr ()) ∧ fX4_canPut M a b = some (1, up M 10 0 0) := by
  have hI' := hI
  obtain ⟨hT, hN, hK, h14, h12, h15, hXT, hXD, hXK, hXM⟩ := hI
  have c44 : ∀ c : Int32, c ≠ 0 → fX4_canPut_44 M c = some (0, up M 10 0 c) := fun c hc => by
    unfold fX4_canPut_44
    rw [bS, up_ss, if_neg hc]
  have c0 : fX4_canPut_44 M 0 = some (1, up M 10 0 0) := by
    unfold fX4_canPut_44
    rw [bS, up_ss, if_pos rfl]
  unfold fX3_requirePlaceUnder fX4_canPut fX4_canPut_17
  rcases g_tag h14 hR.1 hT a with ⟨g0, m0⟩ | ⟨t, ht, rfl, g0, m0⟩
  · rw [g0, m0]
    exact Or.inl ⟨rfl, c44 1 (by decide)⟩
  · rcases g_tag h14 hR.1 hT b with ⟨g1, m1⟩ | ⟨p, hp, rfl, g1, m1⟩
    · rw [g0, m0, bS, bS, xb_i, if_neg n10, g1, m1]
      exact Or.inl ⟨rfl, c44 1 (by decide)⟩
    · rw [g0, m0, bS, bS, xb_i, if_neg n10, g1, m1, bS, bS, xb_i, if_neg n10]
      by_cases e : t = p
      · subst e
        rw [if_pos rfl, if_pos rfl]
        exact Or.inr (Or.inl ⟨rfl, c44 2 (by decide)⟩)
      · have ne : ¬ nI t = nI p := fun q => e ((nI_eq (by omega) (by omega)).mp q)
        rw [if_neg ne, if_neg ne, canHang_n hXT hT ht hp, if_neg e, below_n (tt_m hI' hR) hT hp (by omega), ab_x hR hp, bS, bS]
        cases hb : bt (ab (X 4) (X 5) p) t
        · refine Or.inr (Or.inr (Or.inr ⟨t, p, ht, hp, rfl, rfl, ?_, rfl, c0⟩))
          rw [tt_b hXT hT hp, hb, decide_eq_false e]
          rfl
        · exact Or.inr (Or.inr (Or.inl ⟨rfl, c44 3 (by decide)⟩))
theorem tt_put {X : St} {T N K t p : Nat} (hI : XI X T N K) (ht : t < T) (hp : p < T) (hb : bt (X 5 p) t = false) : TT (upd (X 4) t (nI p)) (nline (X 4) (X 5) t (X 5 p)) T :=
  tt_move hI.2.2.2.2.2.2.1 hI.1 ht (Or.inr ⟨p, hp, rfl, rfl, hb⟩)
theorem tt_free {X : St} {T N K t : Nat} (hI : XI X T N K) (ht : t < T) : TT (upd (X 4) t (-1)) (nline (X 4) (X 5) t 0) T :=
  tt_move hI.2.2.2.2.2.2.1 hI.1 ht (Or.inl ⟨rfl, rfl⟩)
theorem op_putUnder {X M : St} (a1 a2 : Int32) (h : Rel X M) : ∃ R r M1, fX3_putUnder X a1 a2 = some R ∧ fX4_putUnder M a1 a2 = some (r, M1) ∧ AgW [IOB, IAE, ISE] R r M1 := by
  obtain ⟨T, N, K, hI, hR⟩ := h
  rcases gx_put hI hR a1 a2 with ⟨g0, m0⟩ | ⟨g0, m0⟩ | ⟨g0, m0⟩ | ⟨t, p, ht, hp, rfl, rfl, hb, g0, m0⟩
  · exact ⟨Sum.inl (IOB, X), 0, up M 10 0 1, by unfold fX3_putUnder; rw [g0]; rfl, by unfold fX4_putUnder; rw [m0]; rfl, agW_no (by decide) (by decide) hI hR⟩
  · exact ⟨Sum.inl (IAE, X), 0, up M 10 0 2, by unfold fX3_putUnder; rw [g0]; rfl, by unfold fX4_putUnder; rw [m0]; rfl, agW_no (by decide) (by decide) hI hR⟩
  · exact ⟨Sum.inl (ISE, X), 0, up M 10 0 3, by unfold fX3_putUnder; rw [g0]; rfl, by unfold fX4_putUnder; rw [m0]; rfl, agW_no (by decide) (by decide) hI hR⟩
  · obtain ⟨X2, q1, x4, x5, hI2, hR2⟩ := r_move hI (xr_10 hR 0) ht (tt_put hI ht hp hb)
    have hT := hI.1
    refine ⟨Sum.inr (nI (cnt (ab (X2 4) (X2 5) t)), X2), nI (cnt (ab (X2 4) (X2 5) t)), up (up M 10 0 0) 0 t (nI p), ?_, ?_, agW_ok (rel_of hI2 hR2) (by rw [up_n (by decide), up_ss])⟩
    · unfold fX3_putUnder
      rw [g0, bS, xb_i, q1, bS, countAbove_n hI2.2.2.2.2.2.2.1 hT ht, bS]
    · unfold fX4_putUnder
      rw [m0, bS]
      show Option.bind (sto (up M 10 0 0) 0 16 (nI t) (nI p)) _ = _
      rw [sto_n (by omega) (by omega), bS, above_n hT (tt_m hI2 hR2) ht, bS, many_n, bS, ab_x hR2 ht]
theorem op_freeTag {X M : St} (a1 : Int32) (h : Rel X M) : ∃ R r M1, fX3_freeTag X a1 = some R ∧ fX4_freeTag M a1 = some (r, M1) ∧ AgW [IOB, ISE] R r M1 := by
  obtain ⟨T, N, K, M0, e0, z0, hI, hR⟩ := rel_s h
  have hI' := hI
  obtain ⟨hT, hN, hK, h14, h12, h15, hXT, hXD, hXK, hXM⟩ := hI
  rcases g_tag h14 hR.1 hT a1 with ⟨g0, m0⟩ | ⟨t, ht, rfl, g0, m0⟩
  · exact ⟨Sum.inl (IOB, X), 0, up M0 10 0 1, by unfold fX3_freeTag fX3_requireParent; rw [g0]; rfl, by unfold fX4_freeTag; rw [← e0, bS, m0]; rfl, agW_no (by decide) (by decide) hI' hR⟩
  · have l4 : ld X 4 16 (nI t) = some (X 4 t) := ld_n (by omega) (by omega)
    have l0 : ld M0 0 16 (nI t) = some (X 4 t) := by rw [ld_n (by omega) (by omega), hR.2.2.2.2.1 t ht]
    by_cases q : X 4 t = -1
    · refine ⟨Sum.inl (ISE, X), 0, up M0 10 0 2, ?_, ?_, agW_no (by decide) (by decide) hI' hR⟩
      · unfold fX3_freeTag fX3_requireParent
        rw [g0, bS, xb_i, l4, bS, if_pos q]
        rfl
      · unfold fX4_freeTag
        rw [← e0, bS, m0, bS, if_neg n10, l0, bS, if_pos q]
        rfl
    · obtain ⟨X2, q1, x4, x5, hI2, hR2⟩ := r_move hI' hR ht (tt_free hI' ht)
      refine ⟨Sum.inr (X 4 t, X2), X 4 t, up M0 0 t (-1), ?_, ?_, agW_ok (rel_of hI2 hR2) (by rw [up_n (by decide), z0])⟩
      · unfold fX3_freeTag fX3_requireParent
        rw [g0, bS, xb_i, l4, bS, if_neg q, bS, xb_i, bS, q1, bS]
      · unfold fX4_freeTag
        rw [← e0, bS, m0, bS, if_neg n10, l0, bS, if_neg q, bS, sto_n (by omega) (by omega), bS]
/-- what a term matches with a tag elsewhere -/
theorem r_with {X M : St} {T N K t k : Nat} {pa : Int32} {L : Nat → Int32} (hI : XI X T N K) (hR : XR X M T N K) (ht : t < T) (hk : k < K) (h : TT (upd (X 4) t pa) L T) :
    ∃ c X' M', fX3_countMatchedIfUnder X (nI k) (nI t) pa = some (c, X') ∧ fX4_matchesWith M (nI k) (nI t) pa = some (c, M') ∧ XI X' T N K ∧ XR X' M' T N K ∧ M' 10 = M 10 := by
  have hT := hI.1
  have hK := hI.2.2.1
  obtain ⟨X1, q1, x4, x5, hI1, hR1⟩ := r_move hI hR ht h
  have hback : upd (X1 4) t (X 4 t) = X 4 := by
    rw [x4]
    funext i
    by_cases e : i = t
    · rw [e, upd_s]
    · rw [upd_n e, upd_n e]
  obtain ⟨M1, p1, p7, p8, p9, po, hRr⟩ := r_reck hI1 hR1
  obtain ⟨X2, q2, y4, y5, hI2, hR2⟩ := r_move (L := X 5) (pa := X 4 t) hI1 hRr ht (by rw [hback]; exact hI.2.2.2.2.2.2.1)
  refine ⟨nI (cnt (X1 9 k)), X2, up M1 0 t (X 4 t), ?_, ?_, hI2, hR2, ?_⟩
  · unfold fX3_countMatchedIfUnder
    rw [ld_n (by omega) (by omega), bS, q1, bS, ld_n (by omega) (by omega), bS, bitCount_n, bS, q2, bS]
  · unfold fX4_matchesWith
    rw [ld_n (by omega) (by omega), bS, sto_n (by omega) (by omega), bS, p1, bS, sto_n (by omega) (by omega), bS, ld_n (by omega) (by omega), bS, many_n, bS, up_n (a := 9) (k := 0) (by decide), p9 k hk, hR.2.2.2.2.1 t ht]
  · rw [up_n (by decide), po 10 (by decide) (by decide) (by decide), up_n (by decide)]
theorem op_matchesIfUnder {X M : St} (a1 a2 a3 : Int32) (h : Rel X M) : ∃ R r M1, fX3_matchesIfUnder X a1 a2 a3 = some R ∧ fX4_matchesIfUnder M a1 a2 a3 = some (r, M1) ∧ AgW [IOB, IAE, ISE] R r M1 := by
  obtain ⟨T, N, K, M0, e0, z0, hI, hR⟩ := rel_s h
  have hI' := hI
  obtain ⟨hT, hN, hK, h14, h12, h15, hXT, hXD, hXK, hXM⟩ := hI
  rcases g_term h15 hR.2.2.1 hK a1 with ⟨g1, m1⟩ | ⟨k, hk, rfl, g1, m1⟩
  · exact ⟨Sum.inl (IOB, X), 0, up M0 10 0 1, by unfold fX3_matchesIfUnder; rw [g1]; rfl, by unfold fX4_matchesIfUnder; rw [← e0, bS, m1]; rfl, agW_no (by decide) (by decide) hI' hR⟩
  · rcases gx_put hI' hR a2 a3 with ⟨g0, m0⟩ | ⟨g0, m0⟩ | ⟨g0, m0⟩ | ⟨t, p, ht, hp, rfl, rfl, hb, g0, m0⟩
    · exact ⟨Sum.inl (IOB, X), 0, up M0 10 0 1, by unfold fX3_matchesIfUnder; rw [g1, bS, xb_i, g0]; rfl, by unfold fX4_matchesIfUnder; rw [← e0, bS, m1, bS, if_neg n10, m0]; rfl, agW_no (by decide) (by decide) hI' hR⟩
    · exact ⟨Sum.inl (IAE, X), 0, up M0 10 0 2, by unfold fX3_matchesIfUnder; rw [g1, bS, xb_i, g0]; rfl, by unfold fX4_matchesIfUnder; rw [← e0, bS, m1, bS, if_neg n10, m0]; rfl, agW_no (by decide) (by decide) hI' hR⟩
    · exact ⟨Sum.inl (ISE, X), 0, up M0 10 0 3, by unfold fX3_matchesIfUnder; rw [g1, bS, xb_i, g0]; rfl, by unfold fX4_matchesIfUnder; rw [← e0, bS, m1, bS, if_neg n10, m0]; rfl, agW_no (by decide) (by decide) hI' hR⟩
    · obtain ⟨c, X2, M2, q1, q2, hI2, hR2, q3⟩ := r_with hI' (xr_10 hR 0) ht hk (tt_put hI' ht hp hb)
      refine ⟨Sum.inr (c, X2), c, M2, ?_, ?_, agW_ok (rel_of hI2 hR2) (by rw [q3, up_ss])⟩
      · unfold fX3_matchesIfUnder
        rw [g1, bS, xb_i, g0, bS, xb_i, q1]
        rfl
      · unfold fX4_matchesIfUnder
        rw [← e0, bS, m1, bS, if_neg n10, m0, bS]
        show Option.bind (fX4_matchesWith (up M0 10 0 0) (nI k) (nI t) (nI p)) _ = _
        rw [q2]
        rfl
theorem pr_i {α β γ : Type} (a : α) (b : β) (f : α → β → γ) : pr (a, b) f = f a b := rfl
theorem best_l {T N K t k : Nat} (ht : t < T) (hk : k < K) : ∀ (d i n : Nat) (X M : St) (best c : Int32), i + d = T → d < n → XI X T N K → XR X M T N K →
    ∃ r X' M', fX3_bestParent_29 (nI k) (nI t) n X best c (nI i) = some (Sum.inr (r, X')) ∧ fX4_bestParent_46 (nI k) (nI t) n M best c (nI i) = some (r, M') ∧ XI X' T N K ∧ XR X' M' T N K ∧ M' 10 = M 10 := by
  intro d
  induction d with
  | zero =>
    intro i n X M best c h1 h2 hI hR
    obtain ⟨n, rfl⟩ : ∃ k, n = k + 1 := ⟨n - 1, by omega⟩
    have : i = T := by omega
    subst this
    refine ⟨best, X, M, ?_, ?_, hI, hR, rfl⟩
    · rw [fX3_bestParent_29, hI.2.2.2.1, if_pos gT]
    · rw [fX4_bestParent_46, hR.1, if_pos gT]
  | succ d ih =>
    intro i n X M best c h1 h2 hI hR
    obtain ⟨n, rfl⟩ : ∃ k, n = k + 1 := ⟨n - 1, by omega⟩
    have hT := hI.1
    have hi : i < T := by omega
    rw [fX3_bestParent_29, hI.2.2.2.1, if_neg (gL hi (by omega)), canHang_n hI.2.2.2.2.2.2.1 hT ht hi, bS, fX4_bestParent_46, hR.1, if_neg (gL hi (by omega))]
    by_cases e : t = i
    · subst e
      rw [if_pos rfl, if_pos rfl, if_pos rfl, bS, bS, nI_1]
      exact ih (t + 1) n X M best c (by omega) (by omega) hI hR
    · rw [if_neg e, if_neg (fun q => e ((nI_eq (by omega) (by omega)).mp q).symm), below_n (tt_m hI hR) hT hi (by omega), bS, ab_x hR hi]
      cases hb : bt (ab (X 4) (X 5) i) t
      · obtain ⟨cc, X1, M1, q1, q2, hI1, hR1, q3⟩ := r_with hI hR ht hk (tt_put (p := i) hI ht hi (by
          rw [tt_b hI.2.2.2.2.2.2.1 hT hi, hb, decide_eq_false e]
          rfl))
        rw [show (if (false = true) then (0 : Int32) else 1) = 1 from rfl, if_neg n10, isF, bS, if_pos rfl, q1, q2, bS, bS]
        show ∃ r X' M', (if cc ≤ c then _ else _) = _ ∧ (if c < cc then _ else _) = _ ∧ _
        by_cases e2 : cc ≤ c
        · rw [if_pos e2, if_neg (Int32.not_lt.mpr e2), bS, bS, nI_1]
          obtain ⟨r, X', M', w1, w2, w3, w4, w5⟩ := ih (i + 1) n X1 M1 best c (by omega) (by omega) hI1 hR1
          exact ⟨r, X', M', w1, w2, w3, w4, by rw [w5, q3]⟩
        · rw [if_neg e2, if_pos (Int32.not_le.mp e2), bS, bS, nI_1]
          obtain ⟨r, X', M', w1, w2, w3, w4, w5⟩ := ih (i + 1) n X1 M1 (nI i) cc (by omega) (by omega) hI1 hR1
          exact ⟨r, X', M', w1, w2, w3, w4, by rw [w5, q3]⟩
      · rw [show (if (true = true) then (0 : Int32) else 1) = 0 from rfl, if_pos rfl, show (if (true = true) then (1 : Int32) else 0) = 1 from rfl, bS, if_neg n10, bS, nI_1]
        exact ih (i + 1) n X M best c (by omega) (by omega) hI hR
theorem op_bestParent {X M : St} (a1 a2 : Int32) (h : Rel X M) : ∃ R r M1, fX3_bestParent X a1 a2 = some R ∧ fX4_bestParent M a1 a2 = some (r, M1) ∧ AgW [IOB] R r M1 := by
  obtain ⟨T, N, K, M0, e0, z0, hI, hR⟩ := rel_s h
  have hI' := hI
  obtain ⟨hT, hN, hK, h14, h12, h15, hXT, hXD, hXK, hXM⟩ := hI
  rcases g_term h15 hR.2.2.1 hK a1 with ⟨g1, m1⟩ | ⟨k, hk, rfl, g1, m1⟩
  · exact ⟨Sum.inl (IOB, X), 0, up M0 10 0 1, by unfold fX3_bestParent; rw [g1]; rfl, by unfold fX4_bestParent; rw [← e0, bS, m1]; rfl, agW_no (by decide) (by decide) hI' hR⟩
  · rcases g_tag h14 hR.1 hT a2 with ⟨g0, m0⟩ | ⟨t, ht, rfl, g0, m0⟩
    · exact ⟨Sum.inl (IOB, X), 0, up M0 10 0 1, by unfold fX3_bestParent; rw [g1, bS, xb_i, g0]; rfl, by unfold fX4_bestParent; rw [← e0, bS, m1, bS, if_neg n10, m0]; rfl, agW_no (by decide) (by decide) hI' hR⟩
    · have hid : up M0 0 t (X 4 t) = M0 := by
        funext a
        by_cases e : a = 0
        · rw [e, up_s]
          funext i
          by_cases e2 : i = t
          · rw [e2, upd_s, hR.2.2.2.2.1 t ht]
          · rw [upd_n e2]
        · rw [up_n e]
      obtain ⟨Mr, p1, p7, p8, p9, po, hRr⟩ := r_reck hI' hR
      have hid2 : up Mr 0 t (X 4 t) = Mr := by
        funext a
        by_cases e : a = 0
        · rw [e, up_s]
          funext i
          by_cases e2 : i = t
          · rw [e2, upd_s, hRr.2.2.2.2.1 t ht]
          · rw [upd_n e2]
        · rw [up_n e]
      have hw : fX4_matchesWith M0 (nI k) (nI t) (X 4 t) = some (nI (cnt (X 9 k)), Mr) := by
        unfold fX4_matchesWith
        rw [ld_n (by omega) (by omega), bS, sto_n (by omega) (by omega), bS, hid, p1, bS, sto_n (by omega) (by omega), bS, hR.2.2.2.2.1 t ht, hid2, ld_n (by omega) (by omega), bS, many_n, bS, p9 k hk]
      obtain ⟨r, X', M', w1, w2, w3, w4, w5⟩ := best_l ht hk T 0 100 X Mr (-1) (nI (cnt (X 9 k))) (by omega) (by omega) hI' hRr
      rw [nI_0] at w1 w2
      refine ⟨Sum.inr (r, X'), r, M', ?_, ?_, agW_ok (rel_of w3 w4) (by rw [w5, po 10 (by decide) (by decide) (by decide), z0])⟩
      · unfold fX3_bestParent
        rw [g1, bS, xb_i, g0, bS, xb_i, ld_n (by omega) (by omega), bS, bitCount_n, bS]
        exact w1
      · unfold fX4_bestParent
        rw [← e0, bS, m1, bS, if_neg n10, m0, bS, if_neg n10, ld_n (by omega) (by omega), bS, hR.2.2.2.2.1 t ht, hw, bS, pr_i]
        exact w2
theorem lnsf_s {L : Nat → Int32} {o : Int32} {T : Nat} (h : bt o T = false) : lnsf L o (T + 1) = lnsf L o T := by
  show (if bt o T = true then _ else _) = _
  rw [h]
  rfl
theorem op_addTag {X M : St} (h : Rel X M) : ∃ R r M1, fX3_addTag X = some R ∧ fX4_addTag M = some (r, M1) ∧ AgW [ISE] R r M1 := by
  obtain ⟨T, N, K, M0, e0, z0, hI, hR⟩ := rel_s h
  have hI' := hI
  obtain ⟨hT, hN, hK, h14, h12, h15, hXT, hXD, hXK, hXM⟩ := hI
  by_cases e : T = 16
  · refine ⟨Sum.inl (ISE, X), 0, up M0 10 0 1, ?_, ?_, agW_no (by decide) (by decide) hI' hR⟩
    · unfold fX3_addTag
      rw [h14, e]
      exact if_neg (by decide)
    · unfold fX4_addTag
      rw [← e0, bS, hR.1, e]
      rfl
  · have hlt : T < 16 := by omega
    obtain ⟨r11, r12, r13, r14, rt, rd, rk⟩ := hR
    have hg := tt_grow hXT hlt
    obtain ⟨X2, hX2⟩ : ∃ z, z = sR (sR (up X 14 0 (nI T + 1)) 4 (upd (X 4) T (-1))) 5 (fil (upd (X 5) T (sb T)) (X 5) (T + 1)) := ⟨_, rfl⟩
    have x4 : X2 4 = upd (X 4) T (-1) := by rw [hX2, sR_n (by decide), sR_s]
    have x5 : X2 5 = fil (upd (X 5) T (sb T)) (X 5) (T + 1) := by rw [hX2, sR_s]
    have x14 : X2 14 0 = nI (T + 1) := by rw [hX2, sR_n (by decide), sR_n (by decide), up_ss, nI_1]
    have xo : ∀ a, a ≠ 4 → a ≠ 5 → a ≠ 14 → X2 a = X a := fun a h4 h5 h14 => by rw [hX2, sR_n h5, sR_n h4, up_n h14]
    obtain ⟨M2, hM2⟩ : ∃ z, z = up (up M0 0 T (-1)) 11 0 (nI T + 1) := ⟨_, rfl⟩
    have y0 : M2 0 = upd (M0 0) T (-1) := by rw [hM2, up_n (by decide), up_s]
    have yo : ∀ a, a ≠ 0 → a ≠ 11 → M2 a = M0 a := fun a h0 h11 => by rw [hM2, up_n h11, up_n h0]
    have hq : fX1_hang (up X 14 0 (nI T + 1)) (nI T) (-1) = some X2 := by
      rw [hang_n (T := T + 1) (L := upd (X 5) T (sb T)) (by rw [up_ss, nI_1]) (by omega) hlt (by rw [up_n (by decide)]; exact hg), up_n (a := 4) (by decide), up_n (a := 5) (by decide), hX2]
    refine ⟨Sum.inr (nI T, X2), nI T, M2, ?_, ?_, agW_ok (rel_of (T := T + 1) (N := N) (K := K) ⟨by omega, hN, hK, x14, ?_, ?_, ?_, ⟨?_, ?_, ?_, ?_⟩, ?_, ?_⟩ ⟨?_, ?_, ?_, ?_, ?_, ?_, ?_⟩) (by rw [yo 10 (by decide) (by decide), z0])⟩
    · unfold fX3_addTag fX1_grow
      rw [h14, if_pos (show nI T < 16 from nI_lt (b := 16) hlt (by omega)), bS, bS, hq, bS, bS]
      rfl
    · unfold fX4_addTag
      rw [← e0, bS, r11, if_neg (show ¬ nI T = 16 from fun q => e ((nI_eq (a := T) (b := 16) (by omega) (by omega)).mp q)), sto_n hlt (by omega), bS, bS, up_ss, up_n (a := 11) (k := 0) (by decide), r11, ← hM2, nI_1, nI_pred]
    · rw [xo 12 (by decide) (by decide) (by decide), h12]
    · rw [xo 15 (by decide) (by decide) (by decide), h15]
    · unfold XT
      rw [x4, x5]
      exact tt_congr hg (by omega) (fun _ _ => rfl) (fun i hi => fil_in hi)
    · rw [xo 0 (by decide) (by decide) (by decide)]; exact hXD.1
    · rw [xo 0 (by decide) (by decide) (by decide)]
      intro d hd i hi
      have := hXD.2.1 d hd i hi
      omega
    · rw [xo 2 (by decide) (by decide) (by decide)]; exact hXD.2.2.1
    · intro d hd
      rw [xo 1 (by decide) (by decide) (by decide), xo 0 (by decide) (by decide) (by decide), x5, hXD.2.2.2 d hd, lnsf_s (by
        cases hb : bt (X 0 d) T
        · rfl
        · have := hXD.2.1 d hd T hb
          omega)]
      exact lnsf_congr (fun i hi => by rw [fil_in (by omega), upd_n (by omega)])
    · intro k hk
      rw [xo 6 (by decide) (by decide) (by decide), xo 7 (by decide) (by decide) (by decide), xo 8 (by decide) (by decide) (by decide)]
      rcases hXK k hk with ⟨q1, i, hi, q2⟩ | q | q
      · exact Or.inl ⟨q1, i, by omega, q2⟩
      · exact Or.inr (Or.inl q)
      · exact Or.inr (Or.inr q)
    · unfold XM
      rw [xo 6 (by decide) (by decide) (by decide), xo 7 (by decide) (by decide) (by decide), xo 8 (by decide) (by decide) (by decide), xo 9 (by decide) (by decide) (by decide), xo 1 (by decide) (by decide) (by decide)]
      exact hXM
    · rw [hM2, up_ss, nI_1]
    · rw [yo 12 (by decide) (by decide), r12]
    · rw [yo 13 (by decide) (by decide), r13]
    · rw [yo 14 (by decide) (by decide), r14, xo 13 (by decide) (by decide) (by decide)]
    · intro i hi
      rw [y0, x4]
      by_cases e2 : i = T
      · rw [e2, upd_s, upd_s]
      · rw [upd_n e2, upd_n e2]
        exact rt i (by omega)
    · rw [yo 1 (by decide) (by decide), yo 2 (by decide) (by decide), yo 3 (by decide) (by decide), xo 0 (by decide) (by decide) (by decide), xo 2 (by decide) (by decide) (by decide), xo 3 (by decide) (by decide) (by decide)]
      exact rd
    · rw [yo 4 (by decide) (by decide), yo 5 (by decide) (by decide), yo 6 (by decide) (by decide), xo 6 (by decide) (by decide) (by decide), xo 7 (by decide) (by decide) (by decide), xo 8 (by decide) (by decide) (by decide)]
      exact rk
