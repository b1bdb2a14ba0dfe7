/-! THE LAW ANSWERS TRUE -/
def J (X Z : St) (T N K w : Nat) : Prop := XI X T N K ∧ SR X Z T N K ∧ XV X N w
theorem sr_x {X X' Z : St} {T N K : Nat} (h : SR X Z T N K) (e : ∀ a, a ≠ 10 → a ≠ 11 → X' a = X a) : SR X' Z T N K := by
  unfold SR at h ⊢
  rw [e 0 (by decide) (by decide), e 2 (by decide) (by decide), e 3 (by decide) (by decide), e 4 (by decide) (by decide), e 6 (by decide) (by decide), e 7 (by decide) (by decide), e 8 (by decide) (by decide), e 13 (by decide) (by decide)]
  exact h
theorem nI_nl {a b : Nat} (h : b ≤ a) (ha : a < 2 ^ 31) : ¬ nI a < nI b := fun q => by
  have := (nI_ltI (a := a) (b := b) ha (by omega)).mp q
  omega
section LOOPS
variable {X Z : St} {T N K w : Nat} {L : Nat} {xs : Nat → Int32} {x3 x4 : Int32} {k22 : St → St → Int32 → Option Unit}
theorem law_849 (hI : XI X T N K) {k c : Nat} (hk : k < K) (hc : c ≤ T) (k723 : St → St → Int32 → Option Unit) : fL_law_849 L xs x3 (nI T) (nI N) k22 k723 X Z (nI k) (nI c) = k723 X Z (nI (k + 1)) := by
  have hT := hI.1
  unfold fL_law_849
  rw [if_neg (nI_nl hc (by omega)), o_same hI hk, bS, if_neg z10, bS, nI_1]
theorem law_835 (hI : XI X T N K) {k c m : Nat} (hk : k < K) (hc : c ≤ T) (hm : m ≤ 32) (h1 : 0 < m → c ≤ 1) (k723 : St → St → Int32 → Option Unit) (t : Int32) : fL_law_835 L xs x3 (nI T) (nI N) k22 k723 X Z (nI k) (nI m) (nI c) t t = k723 X Z (nI (k + 1)) := by
  unfold fL_law_835
  rw [if_pos rfl]
  by_cases h0 : m = 0
  · subst h0
    rw [if_pos (show nI 0 ≤ 0 from Int32.le_refl _), law_849 hI hk hc]
  · rw [if_neg (show ¬ nI m ≤ 0 from nI_ge (a := 0) (b := m) (by omega) (by omega)), if_neg (show ¬ (1 : Int32) < nI c from nI_nl (a := 1) (h1 (by omega)) (by omega)), law_849 hI hk hc]
theorem law_746 (hJ : J X Z T N K w) {k : Nat} (hk : k < K) (k723 : St → St → Int32 → Option Unit) (h : ∀ X', J X' Z T N K w → k723 X' Z (nI (k + 1)) = some ()) : fL_law_746 L xs x3 (nI T) (nI N) (nI k) (nI (cnt (shr X (X 9 k) N))) k22 k723 100 X Z 0 0 = some () := by
  obtain ⟨hI, hZ, hV⟩ := hJ
  have hT := hI.1
  have hN := hI.2.1
  have hcm : cnt (X 9 k) = fb_ct (bt (X 9 k)) N := cntT (by omega) (xi_sub hI hk)
  refine loop100 (f := fun n (x : Int32) i => fL_law_746 L xs x3 (nI T) (nI N) (nI k) (nI (cnt (shr X (X 9 k) N))) k22 k723 n X Z x i) (st := fun i => nI (fb_ct (bt (X 9 k)) i)) (T := N) (by omega) ?_ ?_
  · intro n
    show fL_law_746 L xs x3 (nI T) (nI N) (nI k) (nI (cnt (shr X (X 9 k) N))) k22 k723 (n + 1) X Z _ _ = _
    obtain ⟨s, c, X', q1, hI2, xo, hs, hc, hl, hbT⟩ := o_cover hI hk
    obtain ⟨c1, c2, c3⟩ := cover_le hI hk hc hl
    have cT : cnt c ≤ T := cnt_bd (by omega) hbT
    have hm := cnt_le (X 9 k)
    have hcs := cnt_le c
    have hsh := cnt_le (shr X (X 9 k) N)
    have hJ2 : J X' Z T N K w := ⟨hI2, sr_x hZ xo, xv_same hV (xo 3 (by decide) (by decide)) (xo 13 (by decide) (by decide))⟩
    rw [fL_law_746, if_pos gT, q1, bS, pr_i, o_matchesOf hI2 hk, bS, xo 9 (by decide) (by decide), ← hcm, if_pos rfl, if_neg (nI_nl c1 (by omega))]
    by_cases hz : cnt c = 0
    · have hz2 := c2.mp hz
      rw [if_pos (by rw [hz]; rfl), fL_law_825, if_pos (by rw [hz2]; rfl), law_835 hI2 hk cT hsh c3, h X' hJ2]
    · have hz2 : cnt (X 9 k) ≠ 0 := fun q => hz (c2.mpr q)
      rw [if_neg (nI_ne0 (by omega) (by omega)), fL_law_825, if_neg (nI_ne0 (by omega) (by omega)), law_835 hI2 hk cT hsh c3, h X' hJ2]
  · intro n i hi
    show fL_law_746 L xs x3 (nI T) (nI N) (nI k) (nI (cnt (shr X (X 9 k) N))) k22 k723 (n + 1) X Z _ _ = fL_law_746 L xs x3 (nI T) (nI N) (nI k) (nI (cnt (shr X (X 9 k) N))) k22 k723 n X Z (nI (fb_ct (bt (X 9 k)) (i + 1))) (nI (i + 1))
    rw [fL_law_746, if_neg (gL hi (by omega)), o_matches hI hk hi, bS, fb_ct_succ]
    cases hb : bt (X 9 k) i
    · rw [isF, if_pos rfl, bS, nI_1]
      rfl
    · have hm := cnt_le (X 1 i)
      rw [isT, if_neg z10, bS, o_tagsOf hI hi, bS, if_pos (nI_le (common_le hI hi hb) (by omega)), bS, nI_1, nI_1]
      rfl
theorem law_723 (hk22 : ∀ X, J X Z T N K w → k22 X Z (x3 + 1) = some ()) : ∀ (d i n : Nat) (X : St), i + d = K → d < n → J X Z T N K w → fL_law_723 L xs x3 (nI T) (nI N) k22 n X Z (nI i) = some () := by
  intro d
  induction d with
  | zero =>
    intro i n X h1 h2 hJ
    obtain ⟨n, rfl⟩ : ∃ k, n = k + 1 := ⟨n - 1, by omega⟩
    have e : i = K := by omega
    subst e
    rw [fL_law_723, o_terms hJ.1, bS, if_pos gT, bS, hk22 X hJ]
  | succ d ih =>
    intro i n X h1 h2 hJ
    obtain ⟨n, rfl⟩ : ∃ k, n = k + 1 := ⟨n - 1, by omega⟩
    have hK := hJ.1.2.2.1
    rw [fL_law_723, o_terms hJ.1, bS, if_neg (gL (by omega) (by omega)), o_common hJ.1 (by omega), bS]
    exact law_746 hJ (by omega) _ (fun X' hJ' => ih (i + 1) n X' (by omega) (by omega) hJ')
theorem law_476 (hI : XI X T N K) {d t : Nat} (hd : d < N) (ht : t < T) (x9 x10 x12 x13 : Int32) (k425 k441 : St → St → Int32 → Int32 → Int32 → Option Unit) : fL_law_476 L xs x3 (nI T) (nI N) x9 x10 (nI d) x12 x13 (nI t) k22 k425 k441 100 X Z (if bt (X 0 d) t = true then 1 else 0) 0 = k441 X Z (x12 + (if bt (X 1 d) t = true then 1 else 0)) x13 (nI (t + 1)) := by
  have hT := hI.1
  obtain ⟨P, hP⟩ : ∃ P : Nat → Bool, P = fun o => bt (X 0 d) o && bt (AB X o) t := ⟨_, rfl⟩
  have key := loop100 (f := fun n (x : Int32) i => fL_law_476 L xs x3 (nI T) (nI N) x9 x10 (nI d) x12 x13 (nI t) k22 k425 k441 n X Z x i) (st := fun i => if (bt (X 0 d) t || decide (0 < fb_ct P i)) = true then 1 else 0) (T := T) (r := k441 X Z (x12 + (if bt (X 1 d) t = true then 1 else 0)) x13 (nI (t + 1))) (by omega) ?_ ?_
  · have e0 : (if (bt (X 0 d) t || decide (0 < fb_ct P 0)) = true then (1 : Int32) else 0) = if bt (X 0 d) t = true then 1 else 0 := by
      rw [show decide (0 < fb_ct P 0) = false from rfl, Bool.or_false]
    rw [e0] at key
    exact key
  · intro n
    show fL_law_476 L xs x3 (nI T) (nI N) x9 x10 (nI d) x12 x13 (nI t) k22 k425 k441 (n + 1) X Z _ _ = _
    rw [fL_law_476, if_pos gT, o_hasTag hI hd ht, bS, hP, ← has_iff hI hd ht, if_pos rfl]
    cases bt (X 1 d) t
    · rw [isF, if_pos rfl, fL_law_550, bS, bS, nI_1]
    · rw [isT, if_neg z10, fL_law_550, bS, bS, nI_1]
  · intro n i hi
    show fL_law_476 L xs x3 (nI T) (nI N) x9 x10 (nI d) x12 x13 (nI t) k22 k425 k441 (n + 1) X Z _ _ = fL_law_476 L xs x3 (nI T) (nI N) x9 x10 (nI d) x12 x13 (nI t) k22 k425 k441 n X Z (if (bt (X 0 d) t || decide (0 < fb_ct P (i + 1))) = true then 1 else 0) (nI (i + 1))
    have h510 : ∀ x15, fL_law_510 L xs x3 (nI T) (nI N) x9 x10 (nI d) x12 x13 (nI t) k22 k425 k441 (fL_law_476 L xs x3 (nI T) (nI N) x9 x10 (nI d) x12 x13 (nI t) k22 k425 k441 n) X Z (nI i) = fL_law_476 L xs x3 (nI T) (nI N) x9 x10 (nI d) x12 x13 (nI t) k22 k425 k441 n X Z (if (true || x15) = true then 1 else 0) (nI (i + 1)) := fun x15 => by
      rw [fL_law_510, bS, nI_1]
      rfl
    have h514 : fL_law_514 L xs x3 (nI T) (nI N) x9 x10 (nI d) x12 x13 (nI t) k22 k425 k441 (fL_law_476 L xs x3 (nI T) (nI N) x9 x10 (nI d) x12 x13 (nI t) k22 k425 k441 n) X Z (nI i) = fL_law_476 L xs x3 (nI T) (nI N) x9 x10 (nI d) x12 x13 (nI t) k22 k425 k441 n X Z 0 (nI (i + 1)) := by
      rw [fL_law_514, bS, nI_1]
    rw [fL_law_476, if_neg (gL hi (by omega))]
    cases ha : (bt (X 0 d) t || decide (0 < fb_ct P i))
    · have hb : bt (X 0 d) t = false ∧ fb_ct P i = 0 := by
        have := Bool.or_eq_false_iff.mp ha
        refine ⟨this.1, ?_⟩
        have := of_decide_eq_false this.2
        omega
      have hs : ∀ b, P i = b → (bt (X 0 d) t || decide (0 < fb_ct P (i + 1))) = b := fun b hb2 => by
        rw [hb.1, Bool.false_or, fb_ct_succ, hb.2, hb2]
        cases b <;> rfl
      rw [isF, if_pos rfl, o_hasOwnTag hI hd hi, bS]
      cases ho : bt (X 0 d) i
      · rw [isF, if_pos rfl, h514, hs false (by rw [hP]; simp [ho]), isF]
      · rw [isT, if_neg z10, o_isBelow hI hi ht, bS]
        cases hq : bt (AB X i) t
        · rw [isF, if_pos rfl, h514, hs false (by rw [hP]; simp [ho, hq]), isF]
        · rw [isT, if_neg z10, h510 true, hs true (by rw [hP]; simp [ho, hq])]
          rfl
    · have hs : (bt (X 0 d) t || decide (0 < fb_ct P (i + 1))) = true := by
        rcases (Bool.or_eq_true _ _).mp ha with q | q
        · rw [q]
          rfl
        · have := of_decide_eq_true q
          have h2 := fb_ct_mono P (show i ≤ i + 1 by omega)
          rw [decide_eq_true (show 0 < fb_ct P (i + 1) by omega), Bool.or_true]
      rw [isT, if_neg z10, h510 true, hs]
      rfl
theorem law_441 (hI : XI X T N K) (hV : XV X N w) (hw : w ≤ 2000) {d : Nat} (hd : d < N) (x9 x10 : Int32) (k425 : St → St → Int32 → Int32 → Int32 → Option Unit) : fL_law_441 L xs x3 (nI T) (nI N) x9 x10 (nI d) k22 k425 100 X Z 0 0 0 = k425 X Z (x9 + (if decide (X 2 d = 0) = true then 1 else 0)) (x10 + X 2 d) (nI (d + 1)) := by
  have hT := hI.1
  have hN := hI.2.1
  have hXD := hI.2.2.2.2.2.2.2.1
  have c0 : cnt (X 0 d) = fb_ct (bt (X 0 d)) T := cntT (by omega) (hXD.2.1 d hd)
  have c1 : cnt (X 1 d) = fb_ct (bt (X 1 d)) T := cntT (by omega) (xi_has hI hd)
  have p0 := cnt_pos (hXD.1 d hd)
  have p1 : cnt (X 0 d) ≤ cnt (X 1 d) := cnt_sub (fun i hi => own_has hI hd hi)
  have b1 := cnt_le (X 1 d)
  obtain ⟨v, hv, ev⟩ := hXD.2.2.1 d hd
  obtain ⟨hw0, g, hg1, hg2⟩ := hV
  have h649 : fL_law_649 L xs x3 (nI T) (nI N) k22 k425 X Z x9 x10 (nI d) = k425 X Z (x9 + (if decide (X 2 d = 0) = true then 1 else 0)) (x10 + X 2 d) (nI (d + 1)) := by
    rw [fL_law_649, o_vivid hI hd, bS]
    by_cases q : X 2 d = 0
    · rw [if_pos q, fL_law_665, bS, o_vivid hI hd, bS, bS, bS, nI_1, decide_eq_true q]
      rfl
    · rw [if_neg q, fL_law_665, bS, o_vivid hI hd, bS, bS, bS, nI_1, decide_eq_false q]
      rfl
  refine loop100 (f := fun n (p : Int32 × Int32) i => fL_law_441 L xs x3 (nI T) (nI N) x9 x10 (nI d) k22 k425 n X Z p.1 p.2 i) (st := fun i => (nI (fb_ct (bt (X 1 d)) i), nI (fb_ct (bt (X 0 d)) i))) (T := T) (by omega) ?_ ?_
  · intro n
    show fL_law_441 L xs x3 (nI T) (nI N) x9 x10 (nI d) k22 k425 (n + 1) X Z (nI (fb_ct (bt (X 1 d)) T)) (nI (fb_ct (bt (X 0 d)) T)) _ = _
    obtain ⟨n1, n2⟩ := hg1 d hd
    rw [fL_law_441, if_pos gT, ← c0, ← c1, if_neg (show ¬ nI (cnt (X 0 d)) < 1 from nI_nl (b := 1) p0 (by omega)), if_neg (nI_nl p1 (by omega)), o_tagsOf hI hd, bS, if_pos rfl, o_vivid hI hd, bS, ev, if_neg (nI_pos (by omega)), bS, if_neg (show ¬ (9 : Int32) < nI v from nI_nl (a := 9) hv (by omega)), o_night hI hd, bS, n1, if_neg (nI_pos (by omega)), bS, o_nights, bS, hw0, if_neg (nI_nl n2 (by omega))]
    by_cases hd0 : d = 0
    · rw [if_pos (by rw [hd0]; exact Int32.le_refl _), h649, ev]
    · obtain ⟨d', rfl⟩ : ∃ z, d = z + 1 := ⟨d - 1, by omega⟩
      rw [if_neg (show ¬ nI (d' + 1) ≤ 0 from nI_ge (a := 0) (b := d' + 1) (by omega) (by omega)), bS, nI_pred, o_night hI (by omega), bS, (hg1 d' (by omega)).1, if_pos (nI_le (hg2 d' hd) (by omega)), h649, ev]
  · intro n i hi
    show fL_law_441 L xs x3 (nI T) (nI N) x9 x10 (nI d) k22 k425 (n + 1) X Z (nI (fb_ct (bt (X 1 d)) i)) (nI (fb_ct (bt (X 0 d)) i)) _ = fL_law_441 L xs x3 (nI T) (nI N) x9 x10 (nI d) k22 k425 n X Z (nI (fb_ct (bt (X 1 d)) (i + 1))) (nI (fb_ct (bt (X 0 d)) (i + 1))) (nI (i + 1))
    rw [fL_law_441, if_neg (gL hi (by omega)), o_hasOwnTag hI hd hi, bS, fb_ct_succ (bt (X 1 d)), fb_ct_succ (bt (X 0 d)), ← add_b, ← add_b]
    have h476 := fun x13 => law_476 (L := L) (xs := xs) (x3 := x3) (k22 := k22) (Z := Z) hI hd hi x9 x10 (nI (fb_ct (bt (X 1 d)) i)) x13 k425 (fL_law_441 L xs x3 (nI T) (nI N) x9 x10 (nI d) k22 k425 n)
    cases hb : bt (X 0 d) i
    · rw [isF, if_pos rfl, fL_law_470, bS]
      have := h476 (nI (fb_ct (bt (X 0 d)) i) + 0)
      rw [hb, isF] at this
      exact this
    · rw [isT, if_neg z10, fL_law_470, bS]
      have := h476 (nI (fb_ct (bt (X 0 d)) i) + 1)
      rw [hb, isT] at this
      exact this
theorem law_425 (hJ : J X Z T N K w) (hw : w ≤ 2000) (hk22 : ∀ X, J X Z T N K w → k22 X Z (x3 + 1) = some ()) : fL_law_425 L xs x3 (nI T) (nI N) k22 100 X Z 0 0 0 = some () := by
  obtain ⟨hI, hZ, hV⟩ := id hJ
  have hN := hI.2.1
  have hK := hI.2.2.1
  have h714 : ∀ r, FP.dcmp r r = some .eq → fL_law_714 L xs k22 X Z x3 (nI T) (nI N) r r = some () := fun r hr => by
    rw [fL_law_714, bS, hr]
    refine (if_pos (by decide)).trans ?_
    exact law_723 hk22 K 0 100 X (by omega) (by omega) hJ
  have hf : fdc (X 0) (X 2) N 0 N = fb_ct (fun d => decide (X 2 d = 0)) N := fb_ct_cong (fun d hd => by rw [va_0 hI hd])
  refine loop100 (f := fun n (p : Int32 × Int32) i => fL_law_425 L xs x3 (nI T) (nI N) k22 n X Z p.1 p.2 i) (st := fun i => (nI (fb_ct (fun d => decide (X 2 d = 0)) i), nI (sm (vv X) i))) (T := N) (by omega) ?_ ?_
  · intro n
    show fL_law_425 L xs x3 (nI T) (nI N) k22 (n + 1) X Z (nI (fb_ct (fun d => decide (X 2 d = 0)) N)) (nI (sm (vv X) N)) _ = _
    rw [fL_law_425, if_pos gT, o_faded hI, bS, hf, if_pos rfl]
    by_cases hz : N = 0
    · subst hz
      rw [o_mean0 hI, bS, if_pos nI_0, h714 0 (by decide +kernel)]
    · obtain ⟨r, h1, h2, h3⟩ := o_mean hI hz
      rw [h1, bS, if_neg (nI_ne0 (by omega) (by omega)), h2, bS, h714 r h3]
  · intro n i hi
    show fL_law_425 L xs x3 (nI T) (nI N) k22 (n + 1) X Z (nI (fb_ct (fun d => decide (X 2 d = 0)) i)) (nI (sm (vv X) i)) _ = fL_law_425 L xs x3 (nI T) (nI N) k22 n X Z (nI (fb_ct (fun d => decide (X 2 d = 0)) (i + 1))) (nI (sm (vv X) i + vv X i)) (nI (i + 1))
    rw [fL_law_425, if_neg (gL hi (by omega)), law_441 hI hV hw hi, fb_ct_succ, ← add_b, ← nI_add (sm (vv X) i), ← (vv_n hI.2.2.2.2.2.2.2.1 hi).1]
theorem law_381 (hI : XI X T N K) {t u : Nat} (ht : t < T) (hu : u < T) (x7 x8 : Int32) (near : Int32) (hn : bt (AB X t) u = true → near = nI u) (k111 : St → St → Int32 → Int32 → Int32 → Option Unit) : fL_law_381 L xs x3 x4 (nI T) (nI N) k22 k111 X Z x7 x8 (nI t) (nI u) near = k111 X Z x7 x8 (nI (t + 1)) := by
  unfold fL_law_381
  rw [o_isBelow hI ht hu, bS]
  cases hb : bt (AB X t) u
  · rw [isF, if_pos rfl, bS, nI_1]
  · rw [isT, if_neg z10, if_pos (hn hb), bS, nI_1]
theorem law_301 (hI : XI X T N K) {t : Nat} (ht : t < T) (x7 x8 : Int32) (k111 : St → St → Int32 → Int32 → Int32 → Option Unit) : fL_law_301 L xs x3 x4 (nI T) (nI N) k22 k111 X Z x7 x8 (nI t) = k111 X Z x7 x8 (nI (t + 1)) := by
  have hT := hI.1
  unfold fL_law_301
  have h5 : ∃ v, rmd (nI t) 5 = some v := ⟨_, if_neg (by decide)⟩
  obtain ⟨v, hv⟩ := h5
  obtain ⟨u, hu, hb⟩ := z_below (n := T) (by omega) (by omega) (x4 >>> ((2 + v) &&& 31))
  rw [hv, bS, hb, bS, o_nearest hI ht hu, bS, o_nearest hI hu ht, bS, show (X 5 u &&& X 5 t) = (X 5 t &&& X 5 u) from Int32.and_comm _ _, if_pos rfl]
  cases hl : low (X 5 t &&& X 5 u) (fun i => cnt (AB X i)) T with
  | none =>
    rw [if_pos (by decide), law_381 hI ht hu _ _ _ (fun q => by rw [near_is hI ht hu q] at hl; cases hl)]
  | some j =>
    obtain ⟨j1, j2⟩ := near_in hI ht hl
    have hl2 : low (X 5 u &&& X 5 t) (fun i => cnt (AB X i)) T = some j := by rw [Int32.and_comm]; exact hl
    obtain ⟨-, j3⟩ := near_in hI hu hl2
    have h363 : fL_law_363 L xs x3 x4 (nI T) (nI N) k22 k111 X Z x7 x8 (nI t) (nI u) (nI j) = k111 X Z x7 x8 (nI (t + 1)) := by
      have hn : bt (AB X t) u = true → nI j = nI u := fun q => by
        rw [near_is hI ht hu q] at hl
        cases hl
        rfl
      rw [fL_law_363]
      by_cases e : j = u
      · rw [if_pos (by rw [e]), law_381 hI ht hu _ _ _ hn]
      · rw [if_neg (fun q => e ((nI_eq (by omega) (by omega)).mp q)), o_isBelow hI hu j1, bS, j3.resolve_left e, isT, if_neg z10, law_381 hI ht hu _ _ _ hn]
    show (if nI j < 0 then _ else _) = _
    rw [if_neg (nI_pos (by omega))]
    by_cases e : j = t
    · rw [if_pos (show oI (some j) = nI t by rw [e]; rfl)]
      exact h363
    · rw [if_neg (show ¬ oI (some j) = nI t from fun q => e ((nI_eq (by omega) (by omega)).mp q)), show oI (some j) = nI j from rfl, o_isBelow hI ht j1, bS, j2.resolve_left e, isT, if_neg z10, h363]
theorem law_252 (hI : XI X T N K) {t p : Nat} (ht : t < T) (hp : p < T) (hab : AB X t = X 5 p) (x7 x8 : Int32) (k111 : St → St → Int32 → Int32 → Int32 → Option Unit) : fL_law_252 L xs x3 x4 (nI T) (nI N) x7 x8 (nI t) (nI p) k22 k111 100 X Z 0 = k111 X Z x7 x8 (nI (t + 1)) := by
  have hT := hI.1
  refine loopU (f := fun n i => fL_law_252 L xs x3 x4 (nI T) (nI N) x7 x8 (nI t) (nI p) k22 k111 n X Z i) (T := T) (by omega) ?_ ?_
  · intro n
    show fL_law_252 L xs x3 x4 (nI T) (nI N) x7 x8 (nI t) (nI p) k22 k111 (n + 1) X Z _ = _
    rw [fL_law_252, if_pos gT, law_301 hI ht]
  · intro n i hi
    show fL_law_252 L xs x3 x4 (nI T) (nI N) x7 x8 (nI t) (nI p) k22 k111 (n + 1) X Z _ = fL_law_252 L xs x3 x4 (nI T) (nI N) x7 x8 (nI t) (nI p) k22 k111 n X Z (nI (i + 1))
    have hx := tt_b hI.2.2.2.2.2.2.1 hT hp i
    rw [← hab] at hx
    rw [fL_law_252, if_neg (gL hi (by omega)), o_isBelow hI ht hi, bS, hx]
    by_cases e : i = p
    · rw [if_pos (by rw [e]), decide_eq_true e, Bool.true_or, isT, fL_law_285, fL_law_290, if_pos rfl, bS, nI_1]
    · rw [if_neg (fun q => e ((nI_eq (by omega) (by omega)).mp q)), o_isBelow hI hp hi, bS, decide_eq_false e, Bool.false_or]
      cases hb : bt (AB X p) i
      · rw [isF, if_pos rfl, fL_law_290, if_pos rfl, bS, nI_1]
      · rw [isT, if_neg z10, fL_law_285, fL_law_290, if_pos rfl, bS, nI_1]
theorem law_171 (hI : XI X T N K) {t : Nat} (ht : t < T) (x7 x8 : Int32) (k111 : St → St → Int32 → Int32 → Int32 → Option Unit) : fL_law_171 L xs x3 x4 (nI T) (nI N) k22 k111 X Z x7 x8 (nI t) (if X 4 t = -1 then 0 else 1) (if X 4 t = -1 then 0 else 1) = k111 X Z x7 x8 (nI (t + 1)) := by
  have hT := hI.1
  have hN := hI.2.1
  unfold fL_law_171
  rw [if_pos rfl, o_dreamsWith hI ht, bS, cnt_dhf (by omega), if_pos (nI_le (fb_ct_le _ _) (by omega)), o_hasParent hI ht, bS]
  rcases tt_par hI ht with ⟨h0, -⟩ | ⟨p, hp, h0, h1, h2⟩
  · rw [if_pos h0, if_pos rfl, law_301 hI ht]
  · have hn : X 4 t ≠ -1 := by rw [h0]; exact nI_m1 (by omega)
    have hbp : bt (AB X t) p = true := by rw [h1]; exact tt_self hI.2.2.2.2.2.2.1 hT hp
    have h5 : bt (X 5 t) p = true := by rw [tt_b hI.2.2.2.2.2.2.1 hT ht, show bt (ab (X 4) (X 5) t) p = true from hbp, Bool.or_true]
    have hle := with_le hI h5
    have hle2 : fb_ct (fun d => bt (X 1 d) p) N ≤ N := fb_ct_le _ _
    rw [if_neg hn, if_neg z10, o_parentOf hI ht hn, bS, o_tagsAbove hI ht, bS, h0, o_tagsAbove hI hp, bS, show (1 : Int32) + nI (cnt (AB X p)) = nI (1 + cnt (AB X p)) from nI_add 1 _, h2, if_pos (by rw [Nat.add_comm]), o_isBelow hI ht hp, bS, hbp, isT, if_neg z10, o_dreamsWith hI hp, bS, bS, cnt_dhf (by omega), if_pos (nI_le hle (by omega)), law_252 hI ht hp h1]
theorem law_111 (hJ : J X Z T N K w) (hw : w ≤ 2000) (hk22 : ∀ X, J X Z T N K w → k22 X Z (x3 + 1) = some ()) : fL_law_111 L xs x3 x4 (nI T) (nI N) k22 100 X Z 0 0 0 = some () := by
  obtain ⟨hI, hZ, hV⟩ := id hJ
  have hT := hI.1
  have hXT := hI.2.2.2.2.2.2.1
  refine loop100 (f := fun n (p : Int32 × Int32) i => fL_law_111 L xs x3 x4 (nI T) (nI N) k22 n X Z p.1 p.2 i) (st := fun i => (nI (sm (fun t => cnt (AB X t)) i), nI (sm (fun t => fb_ct (fun o => bt (AB X o) t) T) i))) (T := T) (by omega) ?_ ?_
  · intro n
    show fL_law_111 L xs x3 x4 (nI T) (nI N) k22 (n + 1) X Z (nI (sm (fun t => cnt (AB X t)) T)) (nI (sm (fun t => fb_ct (fun o => bt (AB X o) t) T) T)) _ = _
    have e : sm (fun t => cnt (AB X t)) T = sm (fun t => fb_ct (fun o => bt (AB X o) t) T) T := by
      rw [sm_congr (g := fun t => fb_ct (bt (AB X t)) T) T (fun t ht => cntT (by omega) (ab_lt hI ht))]
      exact sm_swap (fun t o => bt (AB X t) o) T T
    rw [fL_law_111, if_pos gT, e, if_pos rfl, law_425 hJ hw hk22]
  · intro n i hi
    show fL_law_111 L xs x3 x4 (nI T) (nI N) k22 (n + 1) X Z (nI (sm (fun t => cnt (AB X t)) i)) (nI (sm (fun t => fb_ct (fun o => bt (AB X o) t) T) i)) _ = fL_law_111 L xs x3 x4 (nI T) (nI N) k22 n X Z (nI (sm (fun t => cnt (AB X t)) i + cnt (AB X i))) (nI (sm (fun t => fb_ct (fun o => bt (AB X o) t) T) i + fb_ct (fun o => bt (AB X o) i) T)) (nI (i + 1))
    have h171 := law_171 (L := L) (xs := xs) (x3 := x3) (x4 := x4) (k22 := k22) (Z := Z) hI hi (nI (sm (fun t => cnt (AB X t)) i + cnt (AB X i))) (nI (sm (fun t => fb_ct (fun o => bt (AB X o) t) T) i + fb_ct (fun o => bt (AB X o) i) T)) (fL_law_111 L xs x3 x4 (nI T) (nI N) k22 n)
    rw [fL_law_111, if_neg (gL hi (by omega)), o_tagsAbove hI hi, bS, bS, o_tagsBelow hI hi, bS, bS, o_isBelow hI hi hi, bS, show bt (AB X i) i = false from tt_no hXT hT hi, isF, if_pos rfl, o_hasParent hI hi, bS, bS, nI_add, nI_add]
    rcases tt_par hI hi with ⟨h0, h1⟩ | ⟨p, hp, h0, -, h1⟩
    · rw [if_pos h0] at h171
      rw [if_pos (show nI (cnt (AB X i)) ≤ 0 by rw [h1]; exact Int32.le_refl _), if_pos h0, h171]
    · have hn : X 4 i ≠ -1 := by rw [h0]; exact nI_m1 (by omega)
      have hc := cnt_le (AB X i)
      rw [if_neg hn] at h171
      rw [if_neg (show ¬ nI (cnt (AB X i)) ≤ 0 from nI_ge (a := 0) (b := cnt (AB X i)) (by omega) (by omega)), if_neg hn, h171]
theorem law_54 (hG : GI X Z w) (hw : w ≤ 1900) (hk22 : ∀ X Z w', GI X Z w' → w' ≤ w + 6 → k22 X Z (x3 + 1) = some ()) : fL_law_54 L xs x3 x4 k22 100 X Z 0 = some () := by
  obtain ⟨X1, Z1, w1, q1, g1, hw1⟩ := z_act hG ((x4 >>> ((2 * 0) &&& 31)) + (397 * 0))
  obtain ⟨X2, Z2, w2, q2, g2, hw2⟩ := z_act g1 ((x4 >>> ((2 * (0 + 1)) &&& 31)) + (397 * (0 + 1)))
  obtain ⟨T, N, K, hI, hZ, hV⟩ := g2
  rw [show (100 : Nat) = 97 + 1 + 1 + 1 from rfl, fL_law_54, if_neg (by decide), q1, bS, pr_i, bS, fL_law_54, if_neg (by decide), q2, bS, pr_i, bS, fL_law_54, if_pos (by decide), o_tags hI, bS, o_dreams hI, bS]
  exact law_111 ⟨hI, hZ, hV⟩ (by omega) (fun X hJ => hk22 X Z2 w2 ⟨T, N, K, hJ⟩ (by omega))
theorem law_22 (hL : L ≤ 260) : ∀ (d i n w : Nat) (X Z : St), i + d = 12 → d < n → GI X Z w → w ≤ 300 + 6 * i → fL_law_22 L xs n X Z (nI i) = some () := by
  intro d
  induction d with
  | zero =>
    intro i n w X Z h1 h2 hG hw
    obtain ⟨n, rfl⟩ : ∃ k, n = k + 1 := ⟨n - 1, by omega⟩
    have e : i = 12 := by omega
    subst e
    obtain ⟨T, N, K, hI, hZ, hV⟩ := hG
    rw [fL_law_22, if_pos (by decide), z_same hI hZ, bS]
  | succ d ih =>
    intro i n w X Z h1 h2 hG hw
    obtain ⟨n, rfl⟩ : ∃ k, n = k + 1 := ⟨n - 1, by omega⟩
    obtain ⟨v, hv⟩ := z_cell L xs (i := i % 16) (by omega) hL
    rw [fL_law_22, if_neg (show ¬ (12 : Int32) ≤ nI i from nI_ge (b := 12) (by omega) (by omega)), rmd_16 (by omega), bS, hv, bS, bS]
    exact law_54 hG (by omega) (fun X' Z' w' hG' hw' => by
      rw [nI_1]
      exact ih (i + 1) n w' X' Z' (by omega) (by omega) hG' (by omega))
end LOOPS
/-- the whole law -/
theorem z_law (L : Nat) (xs : Nat → Int32) (hL : L ≤ 260) : fL_law L xs = some () := by
  obtain ⟨X, Z, w, q, hG, hw⟩ := z_build L xs hL
  unfold fL_law
  rw [q, bS, pr_i]
  exact law_22 hL 12 0 100 w X Z (by omega) (by omega) hG (by omega)
