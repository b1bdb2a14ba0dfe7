/-! IN THE END ALL IS AS BY HAND -/
theorem loopU {β : Type} {f : Nat → Int32 → Option β} {T : Nat} {r : Option β} (hT : T < 100) (hexit : ∀ n, f (n + 1) (nI T) = r) (hstep : ∀ n i, i < T → f (n + 1) (nI i) = f n (nI (i + 1))) : f 100 0 = r :=
  loop100 (f := fun n (_ : Unit) i => f n i) (st := fun _ => ()) hT hexit hstep
theorem cntT {o : Int32} {T : Nat} (hT : T ≤ 32) (h : ∀ i, bt o i = true → i < T) : cnt o = fb_ct (bt o) T := by
  unfold cnt
  have h0 : fb_ct (fun k => bt o (T + k)) (32 - T) = 0 := fb_ct_zero.mpr (fun k hk => by
    cases hb : bt o (T + k)
    · rfl
    · have := h _ hb
      omega)
  have h1 := fb_ct_split (bt o) T (32 - T)
  rw [show T + (32 - T) = 32 by omega, h0] at h1
  omega
theorem cnt_dhf {h : Nat → Int32} {t N : Nat} (hN : N ≤ 32) : cnt (dhf h t N) = fb_ct (fun d => bt (h d) t) N := by
  rw [cntT hN (fun i hi => ((dhf_b i N hN).mp hi).1)]
  refine fb_ct_cong (fun k hk => ?_)
  apply Bool.eq_iff_iff.mpr
  rw [dhf_b k N hN]
  exact ⟨fun w => w.2, fun w => ⟨hk, w⟩⟩
theorem add_b (c : Nat) (b : Bool) : (nI c + (if b = true then (1 : Int32) else 0)) = nI (c + (if b = true then 1 else 0)) := by
  cases b
  · exact nI_add c 0
  · exact nI_add c 1
section SAME
variable {X Z : St} {T N K : Nat}
theorem ab_lt (hI : XI X T N K) {t : Nat} (ht : t < T) (i : Nat) (h : bt (AB X t) i = true) : i < T := by
  have hXT := hI.2.2.2.2.2.2.1
  exact hXT.2.2.2 t ht i (by rw [tt_b hXT hI.1 ht]; exact (Bool.or_eq_true _ _).mpr (Or.inr h))
theorem same_154 (hI : XI X T N K) (hZ : SR X Z T N K) {t : Nat} (ht : t < T) (k60 : Int32 → Option Unit) : fX4_isSame_154 X Z (nI t) (nI (cnt (AB X t))) (nI (fb_ct (fun o => bt (AB X o) t) T)) k60 100 0 0 = k60 (nI (t + 1)) := by
  have hT := hI.1
  have hN := hI.2.1
  have l1 : ld Z 1 16 (nI t) = some (X 4 t) := by rw [ld_n (by omega) (by omega), hZ.2.2.2.2.1 t ht]
  have h234 : fX4_isSame_234 X Z k60 (nI t) (nI (cnt (AB X t))) (nI (fb_ct (fun o => bt (AB X o) t) T)) (nI (fb_ct (fun d => bt (X 1 d) t) N)) = k60 (nI (t + 1)) := by
    rw [fX4_isSame_234, o_tagsAbove hI ht, bS, if_pos rfl, o_tagsBelow hI ht, bS, if_pos rfl, o_dreamsWith hI ht, bS, cnt_dhf (by omega), if_pos rfl, bS, nI_1]
  refine loop100 (f := fX4_isSame_154 X Z (nI t) (nI (cnt (AB X t))) (nI (fb_ct (fun o => bt (AB X o) t) T)) k60) (st := fun i => nI (fb_ct (fun d => bt (X 1 d) t) i)) (T := N) (by omega) ?_ ?_
  · intro n
    rw [fX4_isSame_154, hZ.2.1, if_pos gT, o_hasParent hI ht, bS, l1, bS]
    rcases tt_c hI.2.2.2.2.2.2.1 hT ht with ⟨h0, -⟩ | ⟨p, hp, h0, -, -⟩
    · rw [h0, if_pos (by decide), if_pos rfl, fX4_isSame_208, if_pos rfl, l1, bS, h0, if_pos (by decide), h234]
    · have hn : X 4 t ≠ -1 := by rw [h0]; exact nI_m1 (by omega)
      rw [if_neg hn, if_neg (by rw [h0]; exact nI_pos (by omega)), fX4_isSame_208, if_pos rfl, l1, bS, if_neg (by rw [h0]; exact nI_pos (by omega)), o_parentOf hI ht hn, bS, bS, if_pos rfl, h234]
  · intro n i hi
    rw [fX4_isSame_154, hZ.2.1, if_neg (gL hi (by omega)), z_hasTag hI hZ hi ht, bS, fb_ct_succ, ← add_b]
    cases bt (X 1 i) t
    · rw [isF, if_pos rfl, fX4_isSame_180, bS, bS, nI_1]
    · rw [isT, if_neg z10, fX4_isSame_180, bS, bS, ← nI_add i 1]
      rfl
theorem same_79 (hI : XI X T N K) (hZ : SR X Z T N K) {t : Nat} (ht : t < T) (k60 : Int32 → Option Unit) : fX4_isSame_79 X Z (nI t) 0 k60 100 0 0 0 = k60 (nI (t + 1)) := by
  have hT := hI.1
  have hXT := hI.2.2.2.2.2.2.1
  have hc : cnt (AB X t) = fb_ct (bt (AB X t)) T := cntT (by omega) (ab_lt hI ht)
  refine loop100 (f := fun n (p : Int32 × Int32) i => fX4_isSame_79 X Z (nI t) 0 k60 n p.1 p.2 i) (st := fun i => (nI (fb_ct (bt (AB X t)) i), nI (fb_ct (fun o => bt (AB X o) t) i))) (T := T) (by omega) ?_ ?_
  · intro n
    show fX4_isSame_79 X Z (nI t) 0 k60 (n + 1) _ _ _ = _
    rw [fX4_isSame_79, hZ.1, if_pos gT, ← hc]
    exact same_154 hI hZ ht k60
  · intro n i hi
    show fX4_isSame_79 X Z (nI t) 0 k60 (n + 1) _ _ _ = fX4_isSame_79 X Z (nI t) 0 k60 n (nI (fb_ct (bt (AB X t)) (i + 1))) (nI (fb_ct (fun o => bt (AB X o) t) (i + 1))) (nI (i + 1))
    have z1 := z_isBelow hXT hT hZ.2.2.2.2.1 ht (show i < 32 by omega)
    have z2 := z_isBelow hXT hT hZ.2.2.2.2.1 hi (show t < 32 by omega)
    have h123 : ∀ a b : Int32, fX4_isSame_123 X Z (nI t) 0 k60 (fX4_isSame_79 X Z (nI t) 0 k60 n) a (nI i) (nI (fb_ct (fun o => bt (AB X o) t) i)) b = fX4_isSame_79 X Z (nI t) 0 k60 n a (nI (fb_ct (fun o => bt (AB X o) t) i) + b) (nI (i + 1)) := fun a b => by
      rw [fX4_isSame_123, bS, o_isBelow hI ht hi, bS, z1, bS, if_pos rfl, bS, nI_1]
    have h104 : ∀ a : Int32, fX4_isSame_104 X Z (nI t) 0 k60 (fX4_isSame_79 X Z (nI t) 0 k60 n) (nI (fb_ct (fun o => bt (AB X o) t) i)) (nI i) (nI (fb_ct (bt (AB X t)) i)) a = fX4_isSame_79 X Z (nI t) 0 k60 n (nI (fb_ct (bt (AB X t)) i) + a) (nI (fb_ct (fun o => bt (AB X o) t) (i + 1))) (nI (i + 1)) := fun a => by
      rw [fX4_isSame_104, bS, z2, bS, fb_ct_succ, ← add_b]
      cases bt (ab (X 4) (X 5) i) t
      · rw [isF, if_pos rfl, h123]
      · rw [isT, if_neg z10, h123]
    rw [fX4_isSame_79, hZ.1, if_neg (gL hi (by omega)), z1, bS, fb_ct_succ (bt (AB X t)), ← add_b]
    cases bt (ab (X 4) (X 5) t) i
    · rw [isF, if_pos rfl, h104]
    · rw [isT, if_neg z10, h104]
theorem same_289 (hI : XI X T N K) (hZ : SR X Z T N K) {d : Nat} (hd : d < N) (x2 : Int32) (k275 : Int32 → Int32 → Option Unit) : fX4_isSame_289 X Z x2 (nI d) k275 100 0 0 = k275 (x2 + X 2 d) (nI (d + 1)) := by
  have hT := hI.1
  have hN := hI.2.1
  obtain ⟨ho, hv, hn⟩ := hZ.2.2.2.2.2.1 d hd
  have hc : cnt (X 1 d) = fb_ct (bt (X 1 d)) T := cntT (by omega) (xi_has hI hd)
  have l3 : ld Z 3 24 (nI d) = some (X 2 d) := by rw [ld_n (by omega) (by omega), hv]
  have l4 : ld Z 4 24 (nI d) = some (X 3 d) := by rw [ld_n (by omega) (by omega), hn]
  refine loop100 (f := fX4_isSame_289 X Z x2 (nI d) k275) (st := fun i => nI (fb_ct (bt (X 1 d)) i)) (T := T) (by omega) ?_ ?_
  · intro n
    rw [fX4_isSame_289, hZ.1, if_pos gT, o_tagsOf hI hd, bS, hc, if_pos rfl, o_vivid hI hd, bS, l3, bS, if_pos rfl, o_night hI hd, bS, l4, bS, if_pos rfl, bS, bS, bS, nI_1]
  · intro n i hi
    have h315 : ∀ a : Int32, fX4_isSame_315 X Z x2 (nI d) k275 (fX4_isSame_289 X Z x2 (nI d) k275 n) (nI i) (nI (fb_ct (bt (X 1 d)) i)) a = fX4_isSame_289 X Z x2 (nI d) k275 n (nI (fb_ct (bt (X 1 d)) i) + a) (nI (i + 1)) := fun a => by
      rw [fX4_isSame_315, bS, o_hasOwnTag hI hd hi, bS, ix_n (by omega) (by omega), bS, ldO_n (by omega) (by omega), bS, ho i (by omega), if_pos rfl, o_hasTag hI hd hi, bS, z_hasTag hI hZ hd hi, bS, if_pos rfl, bS, nI_1]
    rw [fX4_isSame_289, hZ.1, if_neg (gL hi (by omega)), z_hasTag hI hZ hd hi, bS, fb_ct_succ, ← add_b]
    cases bt (X 1 d) i
    · rw [isF, if_pos rfl, h315]
    · rw [isT, if_neg z10, h315]
theorem ldM_n {k d : Nat} (hk : k < K) (hd : d < N) (hN : N ≤ 24) : ldM (mst X N K) K k N (nI d) = some (if bt (X 9 k) d = true then 1 else 0) := by
  unfold ldM
  rw [if_pos hk, ld_n hd (by omega), mst_in hk, mrw_in hd]
theorem same_440 (hI : XI X T N K) (hZ : SR X Z T N K) {k : Nat} (hk : k < K) (x2 : Int32) (k425 : Int32 → Option Unit) : fX4_isSame_440 X Z (mst X N K) x2 (nI k) k425 100 0 0 = k425 (nI (k + 1)) := by
  have hK := hI.2.2.1
  have hN := hI.2.1
  have hc : cnt (X 9 k) = fb_ct (bt (X 9 k)) N := cntT (by omega) (xi_sub hI hk)
  have k36 : (Z 36 0).toNatClampNeg = K := by rw [hZ.2.2.1, nI_clamp (by omega)]
  have k35 : (Z 35 0).toNatClampNeg = N := by rw [hZ.2.1, nI_clamp (by omega)]
  refine loop100 (f := fX4_isSame_440 X Z (mst X N K) x2 (nI k) k425) (st := fun i => nI (fb_ct (bt (X 9 k)) i)) (T := N) (by omega) ?_ ?_
  · intro n
    rw [fX4_isSame_440, hZ.2.1, if_pos gT, o_matchesOf hI hk, bS, hc, if_pos rfl, bS, nI_1]
  · intro n i hi
    have h466 : ∀ a : Int32, fX4_isSame_466 X Z (mst X N K) x2 (nI k) k425 (fX4_isSame_440 X Z (mst X N K) x2 (nI k) k425 n) (nI i) (nI (fb_ct (bt (X 9 k)) i)) a = fX4_isSame_440 X Z (mst X N K) x2 (nI k) k425 n (nI (fb_ct (bt (X 9 k)) i) + a) (nI (i + 1)) := fun a => by
      rw [fX4_isSame_466, bS, o_matches hI hk hi, bS, k36, k35, ix_n hk (by omega), bS, ldM_n hk hi hN, bS, if_pos rfl, bS, nI_1]
    rw [fX4_isSame_440, k36, k35, hZ.2.1, if_neg (gL hi (by omega)), ix_n hk (by omega), bS, ldM_n hk hi hN, bS, fb_ct_succ, ← add_b]
    cases bt (X 9 k) i
    · rw [isF, if_pos rfl, h466]
    · rw [isT, if_neg z10, h466]
theorem z_same (hI : XI X T N K) (hZ : SR X Z T N K) : fX4_isSame X Z = some () := by
  have hT := hI.1
  have hN := hI.2.1
  have hK := hI.2.2.1
  have zf : fX4_faded Z 0 = some (nI (fdc (X 0) (X 2) N 0 N)) := by
    have := z_faded hI hZ (m := 0) (by omega)
    rw [nI_0] at this
    exact this
  have h425 : fX4_isSame_425 X Z (mst X N K) (nI (sm (vv X) N)) 100 0 = some () := by
    refine loopU (f := fX4_isSame_425 X Z (mst X N K) (nI (sm (vv X) N))) (T := K) (by omega) ?_ ?_
    · intro n
      rw [fX4_isSame_425, hZ.2.2.1, if_pos gT, hZ.2.1]
      by_cases hz : N = 0
      · subst hz
        rw [o_mean0 hI, bS, if_pos nI_0, fX4_isSame_537, bS, if_pos (by decide +kernel)]
      · obtain ⟨r, h1, h2, h3⟩ := o_mean hI hz
        rw [h1, bS, if_neg (nI_ne0 (by omega) (by omega)), h2, bS, fX4_isSame_537, bS, h3]
        exact if_pos (by decide)
    · intro n i hi
      rw [fX4_isSame_425, hZ.2.2.1, if_neg (gL hi (by omega)), same_440 hI hZ hi]
  have h275 : fX4_isSame_275 X Z 100 0 0 = some () := by
    refine loop100 (f := fX4_isSame_275 X Z) (st := fun i => nI (sm (vv X) i)) (T := N) (by omega) ?_ ?_
    · intro n
      rw [fX4_isSame_275, hZ.2.1, if_pos gT, z_matches hI hZ, bS, h425]
    · intro n i hi
      rw [fX4_isSame_275, hZ.2.1, if_neg (gL hi (by omega)), same_289 hI hZ hi, (vv_n hI.2.2.2.2.2.2.2.1 hi).1, nI_add]
      rfl
  unfold fX4_isSame
  rw [o_tags hI, bS, hZ.1, if_pos rfl, o_dreams hI, bS, hZ.2.1, if_pos rfl, o_terms hI, bS, hZ.2.2.1, if_pos rfl, o_nights, bS, hZ.2.2.2.1, if_pos rfl, o_faded hI, bS, zf, bS, if_pos rfl]
  refine loopU (f := fX4_isSame_60 X Z) (T := T) (by omega) ?_ ?_
  · intro n
    rw [fX4_isSame_60, hZ.1, if_pos gT, h275]
  · intro n i hi
    rw [fX4_isSame_60, hZ.1, if_neg (gL hi (by omega)), same_79 hI hZ hi]
end SAME
