/-! EVERY ACT -/
section ACTS
variable {X Z : St} {T N K w : Nat}
theorem a_885 {X' Z' : St} {K w w' : Nat} (h : GI X' Z' w') (hw : w' ≤ w + 3) : AC (fL_act_885 X' Z' (nI K) (nI K)) w := by
  unfold fL_act_885
  rw [if_pos rfl]
  exact ⟨X', Z', w', rfl, h, hw⟩
theorem nterm_n (hZ : SR X Z T N K) (hK : K < 20) (a b c : Int32) : nterm Z (nI K) a b c = some (ntermS Z (nI K) K a b c) := by
  unfold nterm
  rw [ix_n hK (by omega), bS, hZ.2.2.1, if_pos rfl]
theorem a_794 (hI : XI X T N K) (hZ : SR X Z T N K) (hV : XV X N w) (hK : K < 20) {kd a b : Int32} (h : (kd = 0 ∧ ∃ t, t < T ∧ a = nI t) ∨ ((kd = 1 ∨ kd = 2 ∨ kd = 3) ∧ (∃ i, i < K ∧ a = nI i) ∧ ∃ j, j < K ∧ b = nI j)) : AC (fL_act_794 X Z (nI K) kd a b) w := by
  unfold fL_act_794
  rw [nterm_n hZ hK, bS]
  rcases h with ⟨q, t, ht, e⟩ | ⟨q, ⟨i, hi, ea⟩, j, hj, eb⟩
  · subst q
    subst e
    obtain ⟨X', q1, h2⟩ := a_term (b' := b) hI hZ hV hK (kd := 0) (a := nI t) (b := nI t) (Or.inl ⟨rfl, t, ht, rfl⟩) (fun q => by rcases q with q | q <;> exact absurd q (by decide))
    rw [if_pos rfl, fX3_addTagTerm, q_tag hI ht, bS, q_room hI hK, bS, q1, bS, pr_i, bS, pr_i]
    exact a_885 h2 (by omega)
  · subst ea
    subst eb
    rcases q with q | q | q
    · subst q
      obtain ⟨X', q1, h2⟩ := a_term (b' := nI j) hI hZ hV hK (kd := 1) (a := nI i) (b := nI j) (Or.inr (Or.inl ⟨Or.inl rfl, ⟨i, hi, rfl⟩, j, hj, rfl⟩)) (fun _ => rfl)
      rw [if_neg z10, if_pos rfl, fX3_addBothTerm, q_term hI hi, bS, q_term hI hj, bS, q_room hI hK, bS, q1, bS, pr_i, bS, pr_i]
      exact a_885 h2 (by omega)
    · subst q
      obtain ⟨X', q1, h2⟩ := a_term (b' := nI j) hI hZ hV hK (kd := 2) (a := nI i) (b := nI j) (Or.inr (Or.inl ⟨Or.inr rfl, ⟨i, hi, rfl⟩, j, hj, rfl⟩)) (fun _ => rfl)
      rw [if_neg (by decide), if_neg (by decide), if_pos rfl, fX3_addEitherTerm, q_term hI hi, bS, q_term hI hj, bS, q_room hI hK, bS, q1, bS, pr_i, bS, pr_i]
      exact a_885 h2 (by omega)
    · subst q
      obtain ⟨X', q1, h2⟩ := a_term (b' := nI j) hI hZ hV hK (kd := 3) (a := nI i) (b := nI i) (Or.inr (Or.inr ⟨rfl, i, hi, rfl⟩)) (fun q => by rcases q with q | q <;> exact absurd q (by decide))
      rw [if_neg (by decide), if_neg (by decide), if_neg (by decide), fX3_addWithoutTerm, q_term hI hi, bS, q_room hI hK, bS, q1, bS, pr_i, bS, pr_i]
      exact a_885 h2 (by omega)
theorem a_755_0 (hI : XI X T N K) (hZ : SR X Z T N K) (hV : XV X N w) (hK : K < 20) (x : Int32) {t : Nat} (ht : t < T) : AC (fL_act_742 X Z x (nI t) (nI K)) w := by
  unfold fL_act_742 fL_act_755
  rw [if_pos rfl, fL_act_775, if_pos rfl]
  exact a_794 hI hZ hV hK (Or.inl ⟨rfl, t, ht, rfl⟩)
theorem a_755_r (hI : XI X T N K) (hZ : SR X Z T N K) (hV : XV X N w) (hK : K < 20) (h0 : 0 < K) (x c : Int32) {r : Nat} (hr : r < 3) : AC (fL_act_755 X Z x c (nI K) (1 + nI r)) w := by
  have e1 : (1 : Int32) + nI r = nI (1 + r) := nI_add 1 r
  have hne : ¬ nI (1 + r) = 0 := nI_ne0 (by omega) (by omega)
  obtain ⟨i, hi, h1⟩ := z_below h0 (by omega) (x >>> ((2 : Int32) &&& 31))
  obtain ⟨j, hj, h2⟩ := z_below h0 (by omega) (x >>> ((5 : Int32) &&& 31))
  unfold fL_act_755
  rw [e1, if_neg hne, h1, bS, fL_act_775, if_neg hne, h2, bS]
  refine a_794 hI hZ hV hK (Or.inr ⟨?_, ⟨i, hi, rfl⟩, j, hj, rfl⟩)
  rcases (show r = 0 ∨ r = 1 ∨ r = 2 by omega) with e | e | e <;> subst e
  · exact Or.inl rfl
  · exact Or.inr (Or.inl rfl)
  · exact Or.inr (Or.inr rfl)
/-- a new term of a number's choice -/
theorem a_new (hI : XI X T N K) (hZ : SR X Z T N K) (hV : XV X N w) (x v : Int32) {t : Nat} (ht : t < T) : AC (if Z 36 0 = 20 then some (X, Z) else Option.bind (some (Z 36 0)) fun x11 => if x11 = 0 then fL_act_742 X Z x (nI t) x11 else if 20 ≤ v then Option.bind (fL_below (x >>> ((4 : Int32) &&& 31)) 3) fun v_6 => fL_act_755 X Z x (nI t) x11 (1 + v_6) else fL_act_742 X Z x (nI t) x11) w := by
  have hK := hI.2.2.1
  rw [hZ.2.2.1]
  by_cases e : K = 20
  · rw [if_pos (by rw [e]; rfl)]
    exact a_same hI hZ hV
  · rw [if_neg (show ¬ nI K = 20 from fun q => e ((nI_eq (b := 20) (by omega) (by omega)).mp q)), bS]
    by_cases e0 : K = 0
    · rw [if_pos (by rw [e0]; rfl)]
      exact a_755_0 hI hZ hV (by omega) x ht
    · rw [if_neg (nI_ne0 (by omega) (by omega))]
      by_cases e20 : 20 ≤ v
      · obtain ⟨r, hr, h1⟩ := z_below (n := 3) (by omega) (by omega) (x >>> ((4 : Int32) &&& 31))
        have h1 : fL_below (x >>> ((4 : Int32) &&& 31)) 3 = some (nI r) := h1
        rw [if_pos e20, h1, bS]
        exact a_755_r hI hZ hV (by omega) (by omega) x (nI t) hr
      · rw [if_neg e20]
        exact a_755_0 hI hZ hV (by omega) x ht
/-- own tags: one more -/
theorem a_one (hI : XI X T N K) (hZ : SR X Z T N K) (hV : XV X N w) {d t : Nat} (hd : d < N) (ht : t < T) : AC (Option.bind (ix 24 (nI d)) fun j_7 => Option.bind (ldO Z j_7 (nI t)) fun v_8 => if v_8 = 0 then Option.bind (ix 24 (nI d)) fun j_9 => Option.bind (stoO Z j_9 (nI t) 1) fun T_10 => Option.bind (fX3_tagDream X (nI d) (nI t)) fun u_13 => pr u_13 fun v_11 S_12 => Option.bind (fX4_ownTags T_10 (nI d)) fun v_14 => if v_11 = v_14 then some (S_12, T_10) else none else some (X, Z)) w := by
  have hT := hI.1
  have hN := hI.2.1
  rw [ix_n (by omega) (by omega), bS, ldO_n (by omega) (by omega), bS, (hZ.2.2.2.2.2.1 d hd).1 t (by omega)]
  cases hb : bt (X 0 d) t
  · obtain ⟨X', c, q1, q2, h2⟩ := a_tag hI hZ hV hd ht hb
    rw [isF, if_pos rfl, bS, stoO_n (by omega) (by omega), bS, q1, bS, pr_i, q2, bS, if_pos rfl]
    exact ⟨X', _, w, rfl, h2, by omega⟩
  · rw [isT, if_neg z10]
    exact a_same hI hZ hV
theorem z_act (h : GI X Z w) (x : Int32) : AC (fL_act X Z x) w := by
  obtain ⟨T, N, K, hI, hZ, hV⟩ := h
  have hT := hI.1
  have hN := hI.2.1
  have hK := hI.2.2.1
  obtain ⟨s, hs, e9⟩ := z_below (n := 24) (by omega) (by omega) (x >>> ((9 : Int32) &&& 31))
  have e9 : fL_below (x >>> ((9 : Int32) &&& 31)) 24 = some (nI s) := e9
  unfold fL_act
  rw [e9, bS, hZ.1]
  by_cases hT0 : T = 0
  · rw [if_pos (by rw [hT0]; rfl)]
    exact a_22 hI hZ hV
  rw [if_neg (nI_ne0 (by omega) (by omega))]
  by_cases h3 : s < 3
  · rw [if_neg (show ¬ (3 : Int32) ≤ nI s from nI_ge (b := 3) h3 (by omega))]
    exact a_22 hI hZ hV
  rw [if_pos (show (3 : Int32) ≤ nI s from nI_le (a := 3) (by omega) (by omega))]
  obtain ⟨t, ht, e1⟩ := z_below (n := T) (by omega) (by omega) (x >>> ((1 : Int32) &&& 31))
  obtain ⟨p, hp, e3⟩ := z_below (n := T) (by omega) (by omega) (x >>> ((3 : Int32) &&& 31))
  rw [e1, bS, e3, bS]
  by_cases h6 : s < 6
  · rw [if_neg (show ¬ (6 : Int32) ≤ nI s from nI_ge (b := 6) h6 (by omega))]
    by_cases e : t = p
    · rw [if_pos (by rw [e])]
      exact a_same hI hZ hV
    · rw [if_neg (fun q => e ((nI_eq (by omega) (by omega)).mp q)), z_isBelow hI.2.2.2.2.2.2.1 hT hZ.2.2.2.2.1 hp (by omega), bS]
      cases hb : bt (ab (X 4) (X 5) p) t
      · rw [isF, if_pos rfl, sto_n (by omega) (by omega), bS]
        exact a_137 hI hZ hV ht hp e hb
      · rw [isT, if_neg z10]
        exact a_same hI hZ hV
  rw [if_pos (show (6 : Int32) ≤ nI s from nI_le (a := 6) (by omega) (by omega))]
  by_cases h66 : s = 6
  · subst h66
    rw [if_pos (show nI 6 = 6 from rfl), ld_n (by omega) (by omega), bS, hZ.2.2.2.2.1 t ht]
    rcases tt_c hI.2.2.2.2.2.2.1 hT ht with ⟨h0, -⟩ | ⟨q, hq, h0, -, -⟩
    · rw [h0, if_neg (by decide)]
      exact a_same hI hZ hV
    · obtain ⟨X', q1, h2⟩ := a_free hI hZ hV ht (by rw [h0]; exact nI_m1 (by omega))
      rw [if_pos (by rw [h0]; exact nI_pos' (by omega)), bS, sto_n (by omega) (by omega), bS, q1, bS, pr_i, if_pos rfl]
      exact ⟨X', _, w, rfl, h2, by omega⟩
  rw [if_neg (show ¬ nI s = 6 from fun q => h66 ((nI_eq (b := 6) (by omega) (by omega)).mp q)), hZ.2.1]
  by_cases hN0 : N = 0
  · rw [if_pos (by rw [hN0]; rfl)]
    exact a_257 hI hZ hV x ht
  rw [if_neg (nI_ne0 (by omega) (by omega))]
  by_cases h11 : s < 11
  · rw [if_neg (show ¬ (11 : Int32) ≤ nI s from nI_ge (b := 11) h11 (by omega))]
    exact a_257 hI hZ hV x ht
  rw [if_pos (show (11 : Int32) ≤ nI s from nI_le (a := 11) (by omega) (by omega))]
  obtain ⟨d, hd, e5⟩ := z_below (n := N) (by omega) (by omega) (x >>> ((5 : Int32) &&& 31))
  rw [e5, bS, if_neg (show ¬ nI s < 11 from fun q => by
    have := (nI_ltI (a := s) (b := 11) (by omega) (by omega)).mp q
    omega)]
  by_cases h17 : 17 < s
  · rw [if_pos (show (17 : Int32) < nI s from nI_lt (a := 17) h17 (by omega))]
    exact a_new hI hZ hV x (nI s) ht
  rw [if_neg (show ¬ (17 : Int32) < nI s from fun q => by
    have := (nI_ltI (a := 17) (b := s) (by omega) (by omega)).mp q
    omega)]
  rcases (show s = 11 ∨ s = 12 ∨ s = 13 ∨ s = 14 ∨ s = 15 ∨ s = 16 ∨ s = 17 by omega) with e | e | e | e | e | e | e <;> subst e
  · rw [if_pos (by decide)]
    exact a_one hI hZ hV hd ht
  · rw [if_neg (by decide), if_pos (by decide)]
    exact a_one hI hZ hV hd ht
  · rw [if_neg (by decide), if_neg (by decide), if_pos (by decide)]
    exact a_one hI hZ hV hd ht
  · rw [if_neg (by decide), if_neg (by decide), if_neg (by decide), if_pos (by decide), ix_n (by omega) (by omega), bS, ldO_n (by omega) (by omega), bS, (hZ.2.2.2.2.2.1 d hd).1 t (by omega)]
    cases hb : bt (X 0 d) t
    · rw [isF, if_pos rfl]
      exact a_same hI hZ hV
    · rw [isT, if_neg z10, z_own (o := X 0 d) (by omega) (hZ.2.2.2.2.2.1 d hd).1 (x_own16 hI hd), bS]
      have hc := cnt_le (X 0 d)
      by_cases h1 : cnt (X 0 d) = 1
      · rw [if_pos (by rw [h1]; rfl)]
        exact a_same hI hZ hV
      · obtain ⟨X', c, q1, q2, h2⟩ := a_untag hI hZ hV hd ht hb h1
        rw [if_neg (show ¬ nI (cnt (X 0 d)) = 1 from fun q => h1 ((nI_eq (b := 1) (by omega) (by omega)).mp q)), bS, stoO_n (by omega) (by omega), bS, q1, bS, pr_i, q2, bS, if_pos rfl]
        exact ⟨X', _, w, rfl, h2, by omega⟩
  · obtain ⟨r, hr, e10⟩ := z_below (n := 10) (by omega) (by omega) (x >>> ((3 : Int32) &&& 31))
    have e10 : fL_below (x >>> ((3 : Int32) &&& 31)) 10 = some (nI r) := e10
    obtain ⟨q1, h2⟩ := a_recall hI hZ hV hd (show r ≤ 9 by omega)
    rw [if_neg (by decide), if_neg (by decide), if_neg (by decide), if_neg (by decide), if_pos (by decide), ld_n (by omega) (by omega), bS, e10, bS, sto_n (by omega) (by omega), bS, ld_n (by omega) (by omega), bS, up_ss, q1, bS, pr_i, (hZ.2.2.2.2.2.1 d hd).2.1, if_pos rfl]
    exact ⟨_, _, w, rfl, h2, by omega⟩
  · obtain ⟨r, hr, e3'⟩ := z_below (n := 3) (by omega) (by omega) (x >>> ((2 : Int32) &&& 31))
    have e3' : fL_below (x >>> ((2 : Int32) &&& 31)) 3 = some (nI r) := e3'
    rw [if_neg (by decide), if_neg (by decide), if_neg (by decide), if_neg (by decide), if_neg (by decide), if_pos (by decide), e3', bS, bS, bS, show (1 : Int32) + nI r = nI (1 + r) from nI_add 1 r]
    exact a_588 hI hZ hV (by omega) (by omega)
  · obtain ⟨r, hr, e6⟩ := z_below (n := 6) (by omega) (by omega) x
    have e6 : fL_below x 6 = some (nI r) := e6
    rw [if_neg (by decide), if_neg (by decide), if_neg (by decide), if_neg (by decide), if_neg (by decide), if_neg (by decide), if_pos (by decide), e6, bS]
    by_cases hr0 : r = 0
    · subst hr0
      obtain ⟨q1, h2⟩ := a_clear hI hZ hV
      rw [if_pos (by decide), bS, bS, q1, bS, pr_i, hZ.2.2.1, if_pos rfl]
      exact ⟨_, _, w, rfl, h2, by omega⟩
    · rw [if_neg (show ¬ nI r ≤ 0 from nI_ge (a := 0) (b := r) (by omega) (by omega))]
      exact a_same hI hZ hV
/-- the start -/
theorem gi_0 : GI (fun _ _ => 0) (fun _ _ => 0) 0 := by
  refine ⟨0, 0, 0, ⟨Nat.zero_le _, Nat.zero_le _, Nat.zero_le _, rfl, rfl, rfl, ⟨?_, ?_, ?_, ?_⟩, ⟨?_, ?_, ?_, ?_⟩, ?_, ?_⟩, ⟨rfl, rfl, rfl, rfl, ?_, ?_, fun _ _ _ _ _ => rfl, ?_⟩, rfl, fun _ => 0, ?_, ?_⟩ <;> (intro k hk; exact absurd hk (Nat.not_lt_zero _))
theorem z_cell (L : Nat) (xs : Nat → Int32) {i : Nat} (hi : i < 2 ^ 31) (hL : L ≤ 260) : ∃ v, fL_cell L xs (nI i) = some v := by
  unfold fL_cell
  by_cases h : L ≤ i
  · exact ⟨_, if_pos (nI_le h hi)⟩
  · refine ⟨xs i, ?_⟩
    rw [if_neg (nI_ge (by omega) (by omega))]
    unfold ldA
    rw [if_neg (nI_in (by omega) (by omega)), nI_clamp hi]
theorem rmd_16 {i : Nat} (hi : i < 1000) : rmd (nI i) 16 = some (nI (i % 16)) := by
  unfold rmd
  rw [if_neg (by decide)]
  congr 1
  apply Int32.toInt_inj.mp
  rw [rem_toInt, nI_toInt (by omega), nI_toInt (by omega), Int.tmod_eq_emod_of_nonneg (by omega)]
  rfl
theorem z_build (L : Nat) (xs : Nat → Int32) (hL : L ≤ 260) : ∃ X Z w, fL_build L xs (fun _ _ => 0) = some (X, Z) ∧ GI X Z w ∧ w ≤ 300 := by
  unfold fL_build
  obtain ⟨v, hv⟩ := z_cell L xs (i := 0) (by omega) hL
  have hv : fL_cell L xs 0 = some v := hv
  obtain ⟨r, hr, hb⟩ := z_below (n := 44) (by omega) (by omega) v
  have hb : fL_below v 44 = some (nI r) := hb
  rw [hv, bS, hb, bS, bS, show (24 : Int32) + nI r = nI (24 + r) from nI_add 24 r]
  have key : ∀ (d i n w : Nat) (X Z : St), i + d = 24 + r → d < n → GI X Z w → w ≤ 3 * i → ∃ X' Z' w', fL_build_25 L xs (nI (24 + r)) n X Z (nI i) = some (X', Z') ∧ GI X' Z' w' ∧ w' ≤ 300 := by
    intro d
    induction d with
    | zero =>
      intro i n w X Z h1 h2 h hw
      obtain ⟨n, rfl⟩ : ∃ k, n = k + 1 := ⟨n - 1, by omega⟩
      have e : i = 24 + r := by omega
      subst e
      exact ⟨X, Z, w, by rw [fL_build_25, if_pos gT], h, by omega⟩
    | succ d ih =>
      intro i n w X Z h1 h2 h hw
      obtain ⟨n, rfl⟩ : ∃ k, n = k + 1 := ⟨n - 1, by omega⟩
      obtain ⟨c, hc⟩ := z_cell L xs (i := i % 16) (by omega) hL
      obtain ⟨X1, Z1, w1, q1, g1, hw1⟩ := z_act h ((c >>> (((nI i / 16) * 3) &&& 31)) + (509 * nI i))
      rw [fL_build_25, if_neg (nI_ge (by omega) (by omega)), rmd_16 (by omega), bS, hc, bS, q1, bS, pr_i, bS, nI_1]
      exact ih (i + 1) n w1 X1 Z1 (by omega) (by omega) g1 (by omega)
  exact key (24 + r) 0 100 0 _ _ (by omega) (by omega) gi_0 (by omega)
end ACTS
