/-! TERMS ARE ADDED -/
theorem r_add {X M : St} {T N K : Nat} {kd a b b' : Int32} (hI : XI X T N K) (hR : XR X M T N K) (hK : K < 20) (hs : tsh kd a b T K) (hb : kd = 1 ∨ kd = 2 → b' = b) :
    ∃ X' M', fX3_addTerm X kd a b = some (nI K, X') ∧ fX4_add M kd a b' = some (nI K, M') ∧ XI X' T N (K + 1) ∧ XR X' M' T N (K + 1) ∧ M' 10 = M 10 := by
  obtain ⟨hT, hN, hK0, h14, h12, h15, hXT, hXD, hXK, hXM⟩ := hI
  obtain ⟨r11, r12, r13, r14, rt, rd, rk⟩ := hR
  obtain ⟨S, hS⟩ : ∃ z, z = up (up (up (up X 15 0 (nI K + 1)) 6 K kd) 7 K a) 8 K b := ⟨_, rfl⟩
  have s6 : S 6 = upd (X 6) K kd := by rw [hS, up_n (by decide), up_n (by decide), up_s, up_n (by decide)]
  have s7 : S 7 = upd (X 7) K a := by rw [hS, up_n (by decide), up_s, up_n (by decide), up_n (by decide)]
  have s8 : S 8 = upd (X 8) K b := by rw [hS, up_s, up_n (by decide), up_n (by decide), up_n (by decide)]
  have s15 : S 15 0 = nI (K + 1) := by rw [hS, up_n (by decide), up_n (by decide), up_n (by decide), up_ss, nI_1]
  have so : ∀ a, a ≠ 6 → a ≠ 7 → a ≠ 8 → a ≠ 15 → S a = X a := fun a h6 h7 h8 h15 => by rw [hS, up_n h8, up_n h7, up_n h6, up_n h15]
  have hk0 : XK0 S T (K + 1) := by
    intro k hk
    rw [s6, s7, s8]
    by_cases e : k = K
    · subst e
      rw [upd_s, upd_s, upd_s]
      exact hs
    · rw [upd_n e, upd_n e, upd_n e]
      exact hXK k (by omega)
  obtain ⟨m, hm1, hm2⟩ := rematch_n (S := S) (by rw [so 12 (by decide) (by decide) (by decide) (by decide), h12]) hN s15 (show K + 1 ≤ 20 by omega) hT hk0
  refine ⟨sR S 9 m, up (up (up (up M 4 K kd) 5 K a) 6 K b') 13 0 (nI K + 1), ?_, ?_, ⟨hT, hN, by omega, ?_, ?_, ?_, ?_, ?_, ?_, hm2⟩, ⟨?_, ?_, ?_, ?_, ?_, ?_, ?_⟩, ?_⟩
  · unfold fX3_addTerm fX2_add
    rw [bS, bS, h15, sto_n hK (by omega), bS, sto_n hK (by omega), bS, sto_n hK (by omega), bS, bS]
    show Option.bind (fX3_rematchTerms _) _ = _
    rw [← hS, hm1, bS]
  · unfold fX4_add
    rw [r13, if_neg (fun q => by
      have := (nI_eq (a := K) (b := 20) (by omega) (by omega)).mp q
      omega), sto_n hK (by omega), bS, up_n (a := 13) (k := 4) (by decide), r13, sto_n hK (by omega), bS, up_n (a := 13) (k := 5) (by decide), up_n (a := 13) (k := 4) (by decide), r13, sto_n hK (by omega), bS, bS, up_ss, up_n (a := 13) (k := 6) (by decide), up_n (a := 13) (k := 5) (by decide), up_n (a := 13) (k := 4) (by decide), r13, nI_1, nI_pred]
  · rw [sR_n (by decide), so 14 (by decide) (by decide) (by decide) (by decide), h14]
  · rw [sR_n (by decide), so 12 (by decide) (by decide) (by decide) (by decide), h12]
  · rw [sR_n (by decide), s15]
  · unfold XT
    rw [sR_n (by decide), sR_n (by decide), so 4 (by decide) (by decide) (by decide) (by decide), so 5 (by decide) (by decide) (by decide) (by decide)]
    exact hXT
  · unfold XD
    rw [sR_n (by decide), sR_n (by decide), sR_n (by decide), sR_n (by decide), so 0 (by decide) (by decide) (by decide) (by decide), so 1 (by decide) (by decide) (by decide) (by decide), so 2 (by decide) (by decide) (by decide) (by decide), so 5 (by decide) (by decide) (by decide) (by decide)]
    exact hXD
  · unfold XK0
    rw [sR_n (by decide), sR_n (by decide), sR_n (by decide)]
    exact hk0
  · rw [up_n (by decide), up_n (by decide), up_n (by decide), up_n (by decide), r11]
  · rw [up_n (by decide), up_n (by decide), up_n (by decide), up_n (by decide), r12]
  · rw [up_ss, nI_1]
  · rw [up_n (by decide), up_n (by decide), up_n (by decide), up_n (by decide), r14, sR_n (by decide), so 13 (by decide) (by decide) (by decide) (by decide)]
  · intro t ht
    rw [up_n (by decide), up_n (by decide), up_n (by decide), up_n (by decide), sR_n (by decide), so 4 (by decide) (by decide) (by decide) (by decide)]
    exact rt t ht
  · intro d hd
    rw [up_n (by decide), up_n (by decide), up_n (by decide), up_n (by decide), sR_n (by decide), so 0 (by decide) (by decide) (by decide) (by decide), up_n (by decide), up_n (by decide), up_n (by decide), up_n (by decide), sR_n (by decide), so 2 (by decide) (by decide) (by decide) (by decide), up_n (by decide), up_n (by decide), up_n (by decide), up_n (by decide), sR_n (by decide), so 3 (by decide) (by decide) (by decide) (by decide)]
    exact rd d hd
  · intro k hk
    have y4 : (up (up (up (up M 4 K kd) 5 K a) 6 K b') 13 0 (nI K + 1)) 4 = upd (M 4) K kd := by rw [up_n (by decide), up_n (by decide), up_n (by decide), up_s]
    have y5 : (up (up (up (up M 4 K kd) 5 K a) 6 K b') 13 0 (nI K + 1)) 5 = upd (M 5) K a := by rw [up_n (by decide), up_n (by decide), up_s, up_n (by decide)]
    have y6 : (up (up (up (up M 4 K kd) 5 K a) 6 K b') 13 0 (nI K + 1)) 6 = upd (M 6) K b' := by rw [up_n (by decide), up_s, up_n (by decide), up_n (by decide)]
    rw [y4, y5, y6, sR_n (by decide), s6, sR_n (by decide), s7, sR_n (by decide), s8]
    by_cases e : k = K
    · subst e
      rw [upd_s, upd_s, upd_s, upd_s, upd_s, upd_s]
      exact ⟨rfl, rfl, hb⟩
    · rw [upd_n e, upd_n e, upd_n e, upd_n e, upd_n e, upd_n e]
      exact rk k (by omega)
  · rw [up_n (by decide), up_n (by decide), up_n (by decide), up_n (by decide)]
theorem g_room {X M : St} {T N K : Nat} (hI : XI X T N K) (hR : XR X M T N K) (kd a b : Int32) : (fX3_requireRoomForTerm X = some (Sum.inl ISE) ∧ fX4_add M kd a b = some (0, up M 10 0 2)) ∨ (K < 20 ∧ fX3_requireRoomForTerm X = some (Sum.inr ())) := by
  unfold fX3_requireRoomForTerm
  have hK := hI.2.2.1
  rw [hI.2.2.2.2.2.1]
  by_cases e : K = 20
  · subst e
    refine Or.inl ⟨if_neg (by decide), ?_⟩
    unfold fX4_add
    rw [hR.2.2.1]
    rfl
  · exact Or.inr ⟨by omega, if_pos (nI_lt (b := 20) (by omega) (by omega))⟩
theorem op_addTagTerm {X M : St} (a1 : Int32) (h : Rel X M) : ∃ R r M1, fX3_addTagTerm X a1 = some R ∧ fX4_addTagTerm M a1 = some (r, M1) ∧ AgW [IOB, ISE] R r M1 := by
  obtain ⟨T, N, K, M0, e0, z0, hI, hR⟩ := rel_s h
  have hI' := hI
  obtain ⟨hT, hN, hK, h14, h12, h15, hXT, hXD, hXK, hXM⟩ := hI
  rcases g_tag h14 hR.1 hT a1 with ⟨g0, m0⟩ | ⟨t, ht, rfl, g0, m0⟩
  · exact ⟨Sum.inl (IOB, X), 0, up M0 10 0 1, by unfold fX3_addTagTerm; rw [g0]; rfl, by unfold fX4_addTagTerm; rw [← e0, bS, m0]; rfl, agW_no (by decide) (by decide) hI' hR⟩
  · skip
    rcases g_room hI' hR 0 (nI t) 0 with ⟨gr, mr⟩ | ⟨hlt, gr⟩
    · exact ⟨Sum.inl (ISE, X), 0, up M0 10 0 2, by unfold fX3_addTagTerm; rw [g0, bS, xb_i, gr]; rfl, by unfold fX4_addTagTerm; rw [← e0, bS, m0, bS, if_neg n10, mr]; rfl, agW_no (by decide) (by decide) hI' hR⟩
    · obtain ⟨X2, M2, q1, q2, hI2, hR2, q3⟩ := r_add (kd := 0) (a := nI t) (b := nI t) (b' := 0) hI' hR hlt (Or.inl ⟨rfl, t, ht, rfl⟩) (fun q => by rcases q with q | q <;> exact absurd q (by decide))
      exact ⟨Sum.inr (nI K, X2), nI K, M2, by unfold fX3_addTagTerm; rw [g0, bS, xb_i, gr, bS, xb_i, q1]; rfl, by unfold fX4_addTagTerm; rw [← e0, bS, m0, bS, if_neg n10, q2]; rfl, agW_ok (rel_of hI2 hR2) (by rw [q3, z0])⟩
theorem op_addBothTerm {X M : St} (a1 a2 : Int32) (h : Rel X M) : ∃ R r M1, fX3_addBothTerm X a1 a2 = some R ∧ fX4_addBothTerm M a1 a2 = some (r, M1) ∧ AgW [IOB, ISE] R r M1 := by
  obtain ⟨T, N, K, M0, e0, z0, hI, hR⟩ := rel_s h
  have hI' := hI
  obtain ⟨hT, hN, hK, h14, h12, h15, hXT, hXD, hXK, hXM⟩ := hI
  rcases g_term h15 hR.2.2.1 hK a1 with ⟨g0, m0⟩ | ⟨k, hk, rfl, g0, m0⟩
  · exact ⟨Sum.inl (IOB, X), 0, up M0 10 0 1, by unfold fX3_addBothTerm; rw [g0]; rfl, by unfold fX4_addBothTerm; rw [← e0, bS, m0]; rfl, agW_no (by decide) (by decide) hI' hR⟩
  · skip
    rcases g_term h15 hR.2.2.1 hK a2 with ⟨g1, m1⟩ | ⟨j, hj, rfl, g1, m1⟩
    · exact ⟨Sum.inl (IOB, X), 0, up M0 10 0 1, by unfold fX3_addBothTerm; rw [g0, bS, xb_i, g1]; rfl, by unfold fX4_addBothTerm; rw [← e0, bS, m0, bS, if_neg n10, m1]; rfl, agW_no (by decide) (by decide) hI' hR⟩
    · skip
      rcases g_room hI' hR 1 (nI k) (nI j) with ⟨gr, mr⟩ | ⟨hlt, gr⟩
      · exact ⟨Sum.inl (ISE, X), 0, up M0 10 0 2, by unfold fX3_addBothTerm; rw [g0, bS, xb_i, g1, bS, xb_i, gr]; rfl, by unfold fX4_addBothTerm; rw [← e0, bS, m0, bS, if_neg n10, m1, bS, if_neg n10, mr]; rfl, agW_no (by decide) (by decide) hI' hR⟩
      · obtain ⟨X2, M2, q1, q2, hI2, hR2, q3⟩ := r_add (kd := 1) (a := nI k) (b := nI j) (b' := (nI j)) hI' hR hlt (Or.inr (Or.inl ⟨Or.inl rfl, ⟨k, hk, rfl⟩, j, hj, rfl⟩)) (fun _ => rfl)
        exact ⟨Sum.inr (nI K, X2), nI K, M2, by unfold fX3_addBothTerm; rw [g0, bS, xb_i, g1, bS, xb_i, gr, bS, xb_i, q1]; rfl, by unfold fX4_addBothTerm; rw [← e0, bS, m0, bS, if_neg n10, m1, bS, if_neg n10, q2]; rfl, agW_ok (rel_of hI2 hR2) (by rw [q3, z0])⟩
theorem op_addEitherTerm {X M : St} (a1 a2 : Int32) (h : Rel X M) : ∃ R r M1, fX3_addEitherTerm X a1 a2 = some R ∧ fX4_addEitherTerm M a1 a2 = some (r, M1) ∧ AgW [IOB, ISE] R r M1 := by
  obtain ⟨T, N, K, M0, e0, z0, hI, hR⟩ := rel_s h
  have hI' := hI
  obtain ⟨hT, hN, hK, h14, h12, h15, hXT, hXD, hXK, hXM⟩ := hI
  rcases g_term h15 hR.2.2.1 hK a1 with ⟨g0, m0⟩ | ⟨k, hk, rfl, g0, m0⟩
  · exact ⟨Sum.inl (IOB, X), 0, up M0 10 0 1, by unfold fX3_addEitherTerm; rw [g0]; rfl, by unfold fX4_addEitherTerm; rw [← e0, bS, m0]; rfl, agW_no (by decide) (by decide) hI' hR⟩
  · skip
    rcases g_term h15 hR.2.2.1 hK a2 with ⟨g1, m1⟩ | ⟨j, hj, rfl, g1, m1⟩
    · exact ⟨Sum.inl (IOB, X), 0, up M0 10 0 1, by unfold fX3_addEitherTerm; rw [g0, bS, xb_i, g1]; rfl, by unfold fX4_addEitherTerm; rw [← e0, bS, m0, bS, if_neg n10, m1]; rfl, agW_no (by decide) (by decide) hI' hR⟩
    · skip
      rcases g_room hI' hR 2 (nI k) (nI j) with ⟨gr, mr⟩ | ⟨hlt, gr⟩
      · exact ⟨Sum.inl (ISE, X), 0, up M0 10 0 2, by unfold fX3_addEitherTerm; rw [g0, bS, xb_i, g1, bS, xb_i, gr]; rfl, by unfold fX4_addEitherTerm; rw [← e0, bS, m0, bS, if_neg n10, m1, bS, if_neg n10, mr]; rfl, agW_no (by decide) (by decide) hI' hR⟩
      · obtain ⟨X2, M2, q1, q2, hI2, hR2, q3⟩ := r_add (kd := 2) (a := nI k) (b := nI j) (b' := (nI j)) hI' hR hlt (Or.inr (Or.inl ⟨Or.inr rfl, ⟨k, hk, rfl⟩, j, hj, rfl⟩)) (fun _ => rfl)
        exact ⟨Sum.inr (nI K, X2), nI K, M2, by unfold fX3_addEitherTerm; rw [g0, bS, xb_i, g1, bS, xb_i, gr, bS, xb_i, q1]; rfl, by unfold fX4_addEitherTerm; rw [← e0, bS, m0, bS, if_neg n10, m1, bS, if_neg n10, q2]; rfl, agW_ok (rel_of hI2 hR2) (by rw [q3, z0])⟩
theorem op_addWithoutTerm {X M : St} (a1 : Int32) (h : Rel X M) : ∃ R r M1, fX3_addWithoutTerm X a1 = some R ∧ fX4_addWithoutTerm M a1 = some (r, M1) ∧ AgW [IOB, ISE] R r M1 := by
  obtain ⟨T, N, K, M0, e0, z0, hI, hR⟩ := rel_s h
  have hI' := hI
  obtain ⟨hT, hN, hK, h14, h12, h15, hXT, hXD, hXK, hXM⟩ := hI
  rcases g_term h15 hR.2.2.1 hK a1 with ⟨g0, m0⟩ | ⟨k, hk, rfl, g0, m0⟩
  · exact ⟨Sum.inl (IOB, X), 0, up M0 10 0 1, by unfold fX3_addWithoutTerm; rw [g0]; rfl, by unfold fX4_addWithoutTerm; rw [← e0, bS, m0]; rfl, agW_no (by decide) (by decide) hI' hR⟩
  · skip
    rcases g_room hI' hR 3 (nI k) 0 with ⟨gr, mr⟩ | ⟨hlt, gr⟩
    · exact ⟨Sum.inl (ISE, X), 0, up M0 10 0 2, by unfold fX3_addWithoutTerm; rw [g0, bS, xb_i, gr]; rfl, by unfold fX4_addWithoutTerm; rw [← e0, bS, m0, bS, if_neg n10, mr]; rfl, agW_no (by decide) (by decide) hI' hR⟩
    · obtain ⟨X2, M2, q1, q2, hI2, hR2, q3⟩ := r_add (kd := 3) (a := nI k) (b := nI k) (b' := 0) hI' hR hlt (Or.inr (Or.inr ⟨rfl, k, hk, rfl⟩)) (fun q => by rcases q with q | q <;> exact absurd q (by decide))
      exact ⟨Sum.inr (nI K, X2), nI K, M2, by unfold fX3_addWithoutTerm; rw [g0, bS, xb_i, gr, bS, xb_i, q1]; rfl, by unfold fX4_addWithoutTerm; rw [← e0, bS, m0, bS, if_neg n10, q2]; rfl, agW_ok (rel_of hI2 hR2) (by rw [q3, z0])⟩
/-! DREAMS CHANGE -/
theorem r_own {X M : St} {T N K d : Nat} {o : Int32} (hI : XI X T N K) (hR : XR X M T N K) (hd : d < N) (h0 : o ≠ 0) (ho : ∀ i, bt o i = true → i < T) : ∃ X', fX3_setOwnTags X (nI d) o = some X' ∧ X' 0 = upd (X 0) d o ∧ XI X' T N K ∧ XR X' (up M 1 d o) T N K := by
  obtain ⟨hT, hN, hK, h14, h12, h15, hXT, hXD, hXK, hXM⟩ := hI
  obtain ⟨r11, r12, r13, r14, rt, rd, rk⟩ := hR
  obtain ⟨X', q1, x0, x1, xm, xo⟩ := setOwn_n (o := o) (d := d) h14 hT h12 hN h15 hK hXK (by omega)
  refine ⟨X', q1, x0, ⟨hT, hN, hK, ?_, ?_, ?_, ?_, ⟨?_, ?_, ?_, ?_⟩, ?_, xm⟩, ⟨?_, ?_, ?_, ?_, ?_, ?_, ?_⟩⟩
  · rw [xo 14 (by decide) (by decide) (by decide), h14]
  · rw [xo 12 (by decide) (by decide) (by decide), h12]
  · rw [xo 15 (by decide) (by decide) (by decide), h15]
  · unfold XT
    rw [xo 4 (by decide) (by decide) (by decide), xo 5 (by decide) (by decide) (by decide)]
    exact hXT
  · intro j hj
    rw [x0]
    by_cases e : j = d
    · subst e
      rw [upd_s]
      exact h0
    · rw [upd_n e]
      exact hXD.1 j hj
  · intro j hj
    rw [x0]
    by_cases e : j = d
    · subst e
      rw [upd_s]
      exact ho
    · rw [upd_n e]
      exact hXD.2.1 j hj
  · intro j hj
    rw [xo 2 (by decide) (by decide) (by decide)]
    exact hXD.2.2.1 j hj
  · intro j hj
    rw [x0, x1, xo 5 (by decide) (by decide) (by decide)]
    by_cases e : j = d
    · subst e
      rw [upd_s, upd_s]
    · rw [upd_n e, upd_n e]
      exact hXD.2.2.2 j hj
  · unfold XK0
    rw [xo 6 (by decide) (by decide) (by decide), xo 7 (by decide) (by decide) (by decide), xo 8 (by decide) (by decide) (by decide)]
    exact hXK
  · rw [up_n (by decide), r11]
  · rw [up_n (by decide), r12]
  · rw [up_n (by decide), r13]
  · rw [up_n (by decide), r14, xo 13 (by decide) (by decide) (by decide)]
  · intro t ht
    rw [up_n (by decide), xo 4 (by decide) (by decide) (by decide)]
    exact rt t ht
  · intro j hj
    rw [up_n (a := 2) (by decide), up_n (a := 3) (by decide), x0, xo 2 (by decide) (by decide) (by decide), xo 3 (by decide) (by decide) (by decide), up_s]
    by_cases e : j = d
    · subst e
      rw [upd_s, upd_s]
      exact ⟨rfl, (rd j hj).2⟩
    · rw [upd_n e, upd_n e]
      exact rd j hj
  · intro k hk
    rw [up_n (by decide), up_n (by decide), up_n (by decide), xo 6 (by decide) (by decide) (by decide), xo 7 (by decide) (by decide) (by decide), xo 8 (by decide) (by decide) (by decide)]
    exact rk k hk
theorem or_xor {x : Int32} {t : Nat} (ht : t < 32) (h : bt x t = false) : x ^^^ sb t = x ||| sb t := bext fun i => by
  rw [b_xor, b_or, bt_sb ht]
  by_cases e : i = t
  · subst e
    rw [h]
    simp
  · rw [decide_eq_false e]
    simp
theorem and_xor {x : Int32} {t : Nat} (ht : t < 32) (h : bt x t = true) : x ^^^ sb t = x &&& (sb t ^^^ (-1)) := b_ext fun i hi => by
  rw [b_xor, b_and, bt_not _ hi, bt_sb ht]
  by_cases e : i = t
  · subst e
    rw [h]
    simp
  · rw [decide_eq_false e]
    simp
theorem changed_n {M : St} {d t : Nat} {o : Int32} (hd : d < 24) (h : M 1 d ^^^ sb t = o) : fX4_changed M (nI d) (nI t) = some (nI (cnt o), up M 1 d o) := by
  unfold fX4_changed
  rw [ld_n hd (by omega), bS]
  show Option.bind (sto M 1 24 (nI d) (M 1 d ^^^ sb t)) _ = _
  rw [h, sto_n hd (by omega), bS, ld_n hd (by omega), bS, up_ss, many_n, bS]
theorem sb_ne0 {t : Nat} (ht : t < 32) : sb t ≠ 0 := bt_ne0.mpr ⟨t, by rw [bt_sb ht]; exact decide_eq_true rfl⟩
theorem op_tagDream {X M : St} (a1 a2 : Int32) (h : Rel X M) : ∃ R r M1, fX3_tagDream X a1 a2 = some R ∧ fX4_tagDream M a1 a2 = some (r, M1) ∧ AgW [IOB, ISE] R r M1 := by
  obtain ⟨T, N, K, M0, e0, z0, hI, hR⟩ := rel_s h
  have hI' := hI
  obtain ⟨hT, hN, hK, h14, h12, h15, hXT, hXD, hXK, hXM⟩ := hI
  rcases g_dream h12 hR.2.1 hN a1 with ⟨g0, m0⟩ | ⟨d, hd, rfl, g0, m0⟩
  · exact ⟨Sum.inl (IOB, X), 0, up M0 10 0 1, by unfold fX3_tagDream; rw [g0]; rfl, by unfold fX4_tagDream; rw [← e0, bS, m0]; rfl, agW_no (by decide) (by decide) hI' hR⟩
  · rcases g_tag h14 hR.1 hT a2 with ⟨g1, m1⟩ | ⟨t, ht, rfl, g1, m1⟩
    · exact ⟨Sum.inl (IOB, X), 0, up M0 10 0 1, by unfold fX3_tagDream; rw [g0, bS, xb_i, g1]; rfl, by unfold fX4_tagDream; rw [← e0, bS, m0, bS, if_neg n10, m1]; rfl, agW_no (by decide) (by decide) hI' hR⟩
    · have lx : ld X 0 24 (nI d) = some (X 0 d) := ld_n (by omega) (by omega)
      have lm : ld M0 1 24 (nI d) = some (X 0 d) := by rw [ld_n (by omega) (by omega), (hR.2.2.2.2.2.1 d hd).1]
      cases hb : bt (X 0 d) t
      · obtain ⟨X2, q1, x0, hI2, hR2⟩ := r_own (d := d) (o := X 0 d ||| sb t) hI' hR hd (bt_ne0.mpr ⟨t, by rw [b_or, bt_sb (by omega), decide_eq_true rfl, Bool.or_true]⟩) (fun i hi => by
          rw [b_or, bt_sb (by omega)] at hi
          rcases (Bool.or_eq_true _ _).mp hi with hi | hi
          · exact hXD.2.1 d hd i hi
          · have : i = t := of_decide_eq_true hi
            omega)
        refine ⟨Sum.inr (nI (cnt (X 0 d ||| sb t)), X2), nI (cnt (X 0 d ||| sb t)), up M0 1 d (X 0 d ||| sb t), ?_, ?_, agW_ok (rel_of hI2 hR2) (by rw [up_n (by decide), z0])⟩
        · unfold fX3_tagDream
          rw [g0, bS, xb_i, g1, bS, xb_i, lx, bS, isIn_n (by omega), bS, hb, isF, if_pos rfl, bS]
          show Option.bind (fX3_setOwnTags X (nI d) (X 0 d ||| sb t)) _ = _
          rw [q1, bS, ld_n (by omega) (by omega), bS, bitCount_n, bS, x0, upd_s]
        · unfold fX4_tagDream
          rw [← e0, bS, m0, bS, if_neg n10, m1, bS, if_neg n10, lm, bS, is_n (by omega), bS, hb, isF, if_pos rfl, changed_n (o := X 0 d ||| sb t) (by omega) (by rw [(hR.2.2.2.2.2.1 d hd).1]; exact or_xor (by omega) hb)]
          rfl
      · refine ⟨Sum.inl (ISE, X), 0, up M0 10 0 2, ?_, ?_, agW_no (by decide) (by decide) hI' hR⟩
        · unfold fX3_tagDream
          rw [g0, bS, xb_i, g1, bS, xb_i, lx, bS, isIn_n (by omega), bS, hb, if_pos rfl, if_neg n10]
          rfl
        · unfold fX4_tagDream
          rw [← e0, bS, m0, bS, if_neg n10, m1, bS, if_neg n10, lm, bS, is_n (by omega), bS, hb, if_pos rfl, if_neg n10]
          rfl
theorem op_untagDream {X M : St} (a1 a2 : Int32) (h : Rel X M) : ∃ R r M1, fX3_untagDream X a1 a2 = some R ∧ fX4_untagDream M a1 a2 = some (r, M1) ∧ AgW [IOB, ISE] R r M1 := by
  obtain ⟨T, N, K, M0, e0, z0, hI, hR⟩ := rel_s h
  have hI' := hI
  obtain ⟨hT, hN, hK, h14, h12, h15, hXT, hXD, hXK, hXM⟩ := hI
  rcases g_dream h12 hR.2.1 hN a1 with ⟨g0, m0⟩ | ⟨d, hd, rfl, g0, m0⟩
  · exact ⟨Sum.inl (IOB, X), 0, up M0 10 0 1, by unfold fX3_untagDream; rw [g0]; rfl, by unfold fX4_untagDream; rw [← e0, bS, m0]; rfl, agW_no (by decide) (by decide) hI' hR⟩
  · rcases g_tag h14 hR.1 hT a2 with ⟨g1, m1⟩ | ⟨t, ht, rfl, g1, m1⟩
    · exact ⟨Sum.inl (IOB, X), 0, up M0 10 0 1, by unfold fX3_untagDream; rw [g0, bS, xb_i, g1]; rfl, by unfold fX4_untagDream; rw [← e0, bS, m0, bS, if_neg n10, m1]; rfl, agW_no (by decide) (by decide) hI' hR⟩
    · have lx : ld X 0 24 (nI d) = some (X 0 d) := ld_n (by omega) (by omega)
      have lm : ld M0 1 24 (nI d) = some (X 0 d) := by rw [ld_n (by omega) (by omega), (hR.2.2.2.2.2.1 d hd).1]
      cases hb : bt (X 0 d) t
      · refine ⟨Sum.inl (ISE, X), 0, up M0 10 0 2, ?_, ?_, agW_no (by decide) (by decide) hI' hR⟩
        · unfold fX3_untagDream
          rw [g0, bS, xb_i, g1, bS, xb_i, lx, bS, isIn_n (by omega), bS, hb, isF, if_pos rfl]
          rfl
        · unfold fX4_untagDream
          rw [← e0, bS, m0, bS, if_neg n10, m1, bS, if_neg n10, lm, bS, is_n (by omega), bS, hb, isF, if_pos rfl]
          rfl
      · by_cases e : X 0 d = sb t
        · refine ⟨Sum.inl (ISE, X), 0, up M0 10 0 2, ?_, ?_, agW_no (by decide) (by decide) hI' hR⟩
          · unfold fX3_untagDream
            rw [g0, bS, xb_i, g1, bS, xb_i, lx, bS, isIn_n (by omega), bS, hb, if_pos rfl, if_neg n10, bS]
            exact if_pos e
          · unfold fX4_untagDream
            rw [← e0, bS, m0, bS, if_neg n10, m1, bS, if_neg n10, lm, bS, is_n (by omega), bS, hb, if_pos rfl, if_neg n10, bS]
            exact (if_pos e).trans rfl
        · have hne : X 0 d &&& (sb t ^^^ (-1)) ≠ 0 := by
            intro q
            refine e (b_ext fun i hi => ?_)
            have := congrArg (fun x => bt x i) q
            simp only [b_0] at this
            rw [b_and, bt_not _ hi, bt_sb (by omega)] at this
            rw [bt_sb (by omega)]
            by_cases e2 : i = t
            · subst e2
              rw [hb, decide_eq_true rfl]
            · rw [decide_eq_false e2] at this ⊢
              simpa using this
          obtain ⟨X2, q1, x0, hI2, hR2⟩ := r_own (d := d) (o := X 0 d &&& (sb t ^^^ (-1))) hI' hR hd hne (fun i hi => by
            rw [b_and] at hi
            exact hXD.2.1 d hd i ((Bool.and_eq_true _ _).mp hi).1)
          refine ⟨Sum.inr (nI (cnt (X 0 d &&& (sb t ^^^ (-1)))), X2), nI (cnt (X 0 d &&& (sb t ^^^ (-1)))), up M0 1 d (X 0 d &&& (sb t ^^^ (-1))), ?_, ?_, agW_ok (rel_of hI2 hR2) (by rw [up_n (by decide), z0])⟩
          · unfold fX3_untagDream
            rw [g0, bS, xb_i, g1, bS, xb_i, lx, bS, isIn_n (by omega), bS, hb, if_pos rfl, if_neg n10, bS]
            refine (if_neg e).trans ?_
            show Option.bind (some (X 0 d)) (fun v_6 => Option.bind (fX3_setOwnTags X (nI d) (v_6 &&& (sb t ^^^ (-1)))) _) = _
            rw [bS, q1, bS, ld_n (by omega) (by omega), bS, bitCount_n, bS, x0, upd_s]
          · unfold fX4_untagDream
            rw [← e0, bS, m0, bS, if_neg n10, m1, bS, if_neg n10, lm, bS, is_n (by omega), bS, hb, if_pos rfl, if_neg n10, bS]
            refine (if_neg e).trans ?_
            rw [changed_n (o := X 0 d &&& (sb t ^^^ (-1))) (by omega) (by rw [(hR.2.2.2.2.2.1 d hd).1]; exact and_xor (by omega) hb)]
            rfl
theorem op_addDream {X M : St} (a1 a2 : Int32) (h : Rel X M) : ∃ R r M1, fX3_addDream X a1 a2 = some R ∧ fX4_addDream M a1 a2 = some (r, M1) ∧ AgW [IOB, IAE, ISE] R r M1 := by
  obtain ⟨T, N, K, M0, e0, z0, hI, hR⟩ := rel_s h
  have hI' := hI
  obtain ⟨hT, hN, hK, h14, h12, h15, hXT, hXD, hXK, hXM⟩ := hI
  rcases g_tag h14 hR.1 hT a1 with ⟨g0, m0⟩ | ⟨t, ht, rfl, g0, m0⟩
  · exact ⟨Sum.inl (IOB, X), 0, up M0 10 0 1, by unfold fX3_addDream; rw [g0]; rfl, by unfold fX4_addDream; rw [← e0, bS, m0]; rfl, agW_no (by decide) (by decide) hI' hR⟩
  · rcases g_r 1 9 (by omega) (by omega) a2 with ⟨m1, g1⟩ | ⟨v, hv, rfl, g1, g2, m1⟩
    · refine ⟨Sum.inl (IAE, X), 0, up M0 10 0 2, ?_, ?_, agW_no (by decide) (by decide) hI' hR⟩
      · unfold fX3_addDream
        rw [g0, bS, xb_i]
        rcases g1 with g1 | ⟨g1, g2⟩
        · exact if_pos g1
        · exact (if_neg g1).trans (if_neg g2)
      · unfold fX4_addDream
        rw [← e0, bS, m0, bS, if_neg n10, show fX4_isIn a2 1 9 = some 0 from m1, bS, if_pos rfl]
        rfl
    · by_cases e : N = 24
      · refine ⟨Sum.inl (ISE, X), 0, up M0 10 0 3, ?_, ?_, agW_no (by decide) (by decide) hI' hR⟩
        · unfold fX3_addDream
          rw [g0, bS, xb_i]
          refine (if_neg g1).trans ((if_pos g2).trans ?_)
          rw [h12, e]
          exact if_neg (by decide)
        · unfold fX4_addDream
          rw [← e0, bS, m0, bS, if_neg n10, show fX4_isIn (nI v) 1 9 = some 1 from m1, bS, if_neg n10, hR.2.1, e]
          rfl
      · have hlt : N < 24 := by omega
        obtain ⟨r11, r12, r13, r14, rt, rd, rk⟩ := hR
        obtain ⟨S, hS⟩ : ∃ z, z = up (up (up X 12 0 (nI N + 1)) 2 N (nI v)) 3 N (X 13 0) := ⟨_, rfl⟩
        have s2 : S 2 = upd (X 2) N (nI v) := by rw [hS, up_n (by decide), up_s, up_n (by decide)]
        have s3 : S 3 = upd (X 3) N (X 13 0) := by rw [hS, up_s, up_n (by decide), up_n (by decide)]
        have s12 : S 12 0 = nI (N + 1) := by rw [hS, up_n (by decide), up_n (by decide), up_ss, nI_1]
        have so : ∀ a, a ≠ 2 → a ≠ 3 → a ≠ 12 → S a = X a := fun a h2 h3 h12 => by rw [hS, up_n h3, up_n h2, up_n h12]
        have hk0 : XK0 S T K := by
          unfold XK0
          rw [so 6 (by decide) (by decide) (by decide), so 7 (by decide) (by decide) (by decide), so 8 (by decide) (by decide) (by decide)]
          exact hXK
        obtain ⟨X2, q1, x0, x1, xm, xo⟩ := setOwn_n (S := S) (T := T) (N := N + 1) (K := K) (d := N) (o := sb t) (by rw [so 14 (by decide) (by decide) (by decide), h14]) hT s12 (by omega) (by rw [so 15 (by decide) (by decide) (by decide), h15]) hK hk0 hlt
        rw [so 0 (by decide) (by decide) (by decide)] at x0
        rw [so 1 (by decide) (by decide) (by decide), so 5 (by decide) (by decide) (by decide)] at x1
        have x2 : X2 2 = upd (X 2) N (nI v) := by rw [xo 2 (by decide) (by decide) (by decide), s2]
        have x3 : X2 3 = upd (X 3) N (X 13 0) := by rw [xo 3 (by decide) (by decide) (by decide), s3]
        have xx : ∀ a, a ≠ 0 → a ≠ 1 → a ≠ 9 → a ≠ 2 → a ≠ 3 → a ≠ 12 → X2 a = X a := fun a h0 h1 h9 h2 h3 h12 => by rw [xo a h0 h1 h9, so a h2 h3 h12]
        obtain ⟨M2, hM2⟩ : ∃ z, z = up (up (up (up M0 1 N (sb t)) 2 N (nI v)) 3 N (X 13 0)) 12 0 (nI N + 1) := ⟨_, rfl⟩
        have y1 : M2 1 = upd (M0 1) N (sb t) := by rw [hM2, up_n (by decide), up_n (by decide), up_n (by decide), up_s]
        have y2 : M2 2 = upd (M0 2) N (nI v) := by rw [hM2, up_n (by decide), up_n (by decide), up_s, up_n (by decide)]
        have y3 : M2 3 = upd (M0 3) N (X 13 0) := by rw [hM2, up_n (by decide), up_s, up_n (by decide), up_n (by decide)]
        have y12 : M2 12 0 = nI (N + 1) := by rw [hM2, up_ss, nI_1]
        have yo : ∀ a, a ≠ 1 → a ≠ 2 → a ≠ 3 → a ≠ 12 → M2 a = M0 a := fun a h1 h2 h3 h12 => by rw [hM2, up_n h12, up_n h3, up_n h2, up_n h1]
        refine ⟨Sum.inr (nI N, X2), nI N, M2, ?_, ?_, agW_ok (rel_of (T := T) (N := N + 1) (K := K) ⟨hT, by omega, hK, ?_, ?_, ?_, ?_, ⟨?_, ?_, ?_, ?_⟩, ?_, xm⟩ ⟨?_, y12, ?_, ?_, ?_, ?_, ?_⟩) (by rw [yo 10 (by decide) (by decide) (by decide) (by decide), z0])⟩
        · unfold fX3_addDream
          rw [g0, bS, xb_i]
          refine (if_neg g1).trans ((if_pos g2).trans ?_)
          rw [h12, if_pos (show nI N < 24 from nI_lt (b := 24) hlt (by omega)), bS, bS, sto_n hlt (by omega), bS, sto_n hlt (by omega), bS, up_n (a := 13) (k := 2) (by decide), up_n (a := 13) (k := 12) (by decide), ← hS]
          show Option.bind (fX3_setOwnTags S (nI N) (sb t)) _ = _
          rw [q1, bS]
        · unfold fX4_addDream
          rw [← e0, bS, m0, bS, if_neg n10, show fX4_isIn (nI v) 1 9 = some 1 from m1, bS, if_neg n10, r12, if_neg (show ¬ nI N = 24 from fun q => e ((nI_eq (a := N) (b := 24) (by omega) (by omega)).mp q)), sto_n hlt (by omega), bS, up_n (a := 12) (k := 1) (by decide), r12, sto_n hlt (by omega), bS, up_n (a := 12) (k := 2) (by decide), up_n (a := 12) (k := 1) (by decide), r12, up_n (a := 14) (k := 2) (by decide), up_n (a := 14) (k := 1) (by decide), r14, sto_n hlt (by omega), bS, bS, up_ss, up_n (a := 12) (k := 3) (by decide), up_n (a := 12) (k := 2) (by decide), up_n (a := 12) (k := 1) (by decide), r12]
          show some (nI N + 1 - 1, up (up (up (up M0 1 N (sb t)) 2 N (nI v)) 3 N (X 13 0)) 12 0 (nI N + 1)) = _
          rw [← hM2, nI_1, nI_pred]
        · rw [xx 14 (by decide) (by decide) (by decide) (by decide) (by decide) (by decide), h14]
        · rw [xo 12 (by decide) (by decide) (by decide), s12]
        · rw [xx 15 (by decide) (by decide) (by decide) (by decide) (by decide) (by decide), h15]
        · unfold XT
          rw [xx 4 (by decide) (by decide) (by decide) (by decide) (by decide) (by decide), xx 5 (by decide) (by decide) (by decide) (by decide) (by decide) (by decide)]
          exact hXT
        · intro j hj
          rw [x0]
          by_cases e2 : j = N
          · rw [e2, upd_s]
            exact sb_ne0 (by omega)
          · rw [upd_n e2]
            exact hXD.1 j (by omega)
        · intro j hj i hi
          rw [x0] at hi
          by_cases e2 : j = N
          · rw [e2, upd_s, bt_sb (by omega)] at hi
            have : i = t := of_decide_eq_true hi
            omega
          · rw [upd_n e2] at hi
            exact hXD.2.1 j (by omega) i hi
        · intro j hj
          rw [x2]
          by_cases e2 : j = N
          · rw [e2, upd_s]
            exact ⟨v, hv, rfl⟩
          · rw [upd_n e2]
            exact hXD.2.2.1 j (by omega)
        · intro j hj
          rw [x0, x1, xx 5 (by decide) (by decide) (by decide) (by decide) (by decide) (by decide)]
          by_cases e2 : j = N
          · rw [e2, upd_s, upd_s]
          · rw [upd_n e2, upd_n e2]
            exact hXD.2.2.2 j (by omega)
        · unfold XK0
          rw [xx 6 (by decide) (by decide) (by decide) (by decide) (by decide) (by decide), xx 7 (by decide) (by decide) (by decide) (by decide) (by decide) (by decide), xx 8 (by decide) (by decide) (by decide) (by decide) (by decide) (by decide)]
          exact hXK
        · rw [yo 11 (by decide) (by decide) (by decide) (by decide), r11]
        · rw [yo 13 (by decide) (by decide) (by decide) (by decide), r13]
        · rw [yo 14 (by decide) (by decide) (by decide) (by decide), r14, xx 13 (by decide) (by decide) (by decide) (by decide) (by decide) (by decide)]
        · intro j hj
          rw [yo 0 (by decide) (by decide) (by decide) (by decide), xx 4 (by decide) (by decide) (by decide) (by decide) (by decide) (by decide)]
          exact rt j hj
        · intro j hj
          rw [y1, y2, y3, x0, x2, x3]
          by_cases e2 : j = N
          · rw [e2, upd_s, upd_s, upd_s, upd_s, upd_s, upd_s]
            exact ⟨rfl, rfl, rfl⟩
          · rw [upd_n e2, upd_n e2, upd_n e2, upd_n e2, upd_n e2, upd_n e2]
            exact rd j (by omega)
        · intro k hk
          rw [yo 4 (by decide) (by decide) (by decide) (by decide), yo 5 (by decide) (by decide) (by decide) (by decide), yo 6 (by decide) (by decide) (by decide) (by decide), xx 6 (by decide) (by decide) (by decide) (by decide) (by decide) (by decide), xx 7 (by decide) (by decide) (by decide) (by decide) (by decide) (by decide), xx 8 (by decide) (by decide) (by decide) (by decide) (by decide) (by decide)]
          exact rk k hk
