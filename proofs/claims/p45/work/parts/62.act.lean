/-! AN ACT KEEPS BOTH ALIKE -/
def XV (X : St) (N w : Nat) : Prop := X 13 0 = nI w ∧ ∃ g : Nat → Nat, (∀ d, d < N → X 3 d = nI (g d) ∧ g d ≤ w) ∧ ∀ d, d + 1 < N → g d ≤ g (d + 1)
def GI (X Z : St) (w : Nat) : Prop := ∃ T N K, XI X T N K ∧ SR X Z T N K ∧ XV X N w
def AC (R : Option (St × St)) (w : Nat) : Prop := ∃ X Z w', R = some (X, Z) ∧ GI X Z w' ∧ w' ≤ w + 3
theorem xv_same {X X' : St} {N w : Nat} (h : XV X N w) (e3 : X' 3 = X 3) (e13 : X' 13 = X 13) : XV X' N w := by
  unfold XV
  rw [e3, e13]
  exact h
theorem z_below {n : Nat} (h0 : 0 < n) (hn : n ≤ 100) (x : Int32) : ∃ r, r < n ∧ fL_below x (nI n) = some (nI r) := by
  obtain ⟨m, hm, e⟩ := pk_andE x (m := 2147483647) 31 (by decide)
  refine ⟨m % n, Nat.mod_lt _ h0, ?_⟩
  unfold fL_below rmd
  rw [e, if_neg (nI_ne0 h0 (by omega)), bS]
  congr 1
  apply Int32.toInt_inj.mp
  have h1 : m % n < n := Nat.mod_lt _ h0
  rw [rem_toInt, nI_toInt (by omega), nI_toInt (by omega), nI_toInt (by omega), Int.tmod_eq_emod_of_nonneg (by omega)]
  rfl
section ACT
variable {X Z : St} {T N K w : Nat}
theorem a_same (hI : XI X T N K) (hZ : SR X Z T N K) (hV : XV X N w) : AC (some (X, Z)) w := ⟨X, Z, w, rfl, ⟨T, N, K, hI, hZ, hV⟩, by omega⟩
theorem a_22 (hI : XI X T N K) (hZ : SR X Z T N K) (hV : XV X N w) : AC (fL_act_22 X Z) w := by
  have hT := hI.1
  obtain ⟨z34, z35, z36, z37, zt, zd, ze, zk⟩ := id hZ
  unfold fL_act_22
  rw [z34]
  by_cases e : T = 16
  · rw [if_pos (by rw [e]; rfl)]
    exact a_same hI hZ hV
  · rw [if_neg (show ¬ nI T = 16 from fun q => e ((nI_eq (b := 16) (by omega) (by omega)).mp q)), sto_n (by omega) (by omega), bS, bS]
    obtain ⟨X', q1, hI2, x4, xo⟩ := u_addTag hI (by omega)
    obtain ⟨Z', hZ'⟩ : ∃ z, z = up (up Z 1 T (-1)) 34 0 ((up Z 1 T (-1)) 34 0 + 1) := ⟨_, rfl⟩
    have y34 : Z' 34 0 = nI (T + 1) := by rw [hZ', up_ss, up_n (by decide), z34, nI_1]
    have y1 : Z' 1 = upd (Z 1) T (-1) := by rw [hZ', up_n (by decide), up_s]
    have yo : ∀ a, a ≠ 1 → a ≠ 34 → Z' a = Z a := fun a h1 h2 => by rw [hZ', up_n h2, up_n h1]
    rw [← hZ', q1, bS, pr_i, y34, nI_pred, if_pos rfl]
    refine ⟨X', Z', w, rfl, ⟨T + 1, N, K, hI2, ⟨y34, ?_, ?_, ?_, ?_, ?_, ?_, ?_⟩, xv_same hV (xo 3 (by decide) (by decide) (by decide)) (xo 13 (by decide) (by decide) (by decide))⟩, by omega⟩
    · rw [yo 35 (by decide) (by decide), z35]
    · rw [yo 36 (by decide) (by decide), z36]
    · rw [yo 37 (by decide) (by decide), z37, xo 13 (by decide) (by decide) (by decide)]
    · intro t ht
      rw [y1, x4]
      by_cases e2 : t = T
      · rw [e2, upd_s, upd_s]
      · rw [upd_n e2, upd_n e2]
        exact zt t (by omega)
    · intro d hd
      rw [yo (10 + d) (by omega) (by have := hI.2.1; omega), yo 3 (by decide) (by decide), yo 4 (by decide) (by decide), xo 0 (by decide) (by decide) (by decide), xo 2 (by decide) (by decide) (by decide), xo 3 (by decide) (by decide) (by decide)]
      exact zd d hd
    · intro d h1 h2
      rw [yo (10 + d) (by omega) (by omega)]
      exact ze d h1 h2
    · intro k hk
      rw [yo (40 + k) (by omega) (by omega), xo 6 (by decide) (by decide) (by decide), xo 7 (by decide) (by decide) (by decide), xo 8 (by decide) (by decide) (by decide)]
      exact zk k hk
/-- the parents of one tag changed -/
theorem sr_parent {X' : St} (hI : XI X T N K) (hZ : SR X Z T N K) {t : Nat} {pa : Int32} (x4 : X' 4 = upd (X 4) t pa) (xo : ∀ a, a ≠ 4 → a ≠ 5 → a ≠ 1 → a ≠ 9 → X' a = X a) : SR X' (up Z 1 t pa) T N K := by
  obtain ⟨z34, z35, z36, z37, zt, zd, ze, zk⟩ := id hZ
  refine ⟨by rw [up_n (by decide), z34], by rw [up_n (by decide), z35], by rw [up_n (by decide), z36], by rw [up_n (by decide), z37, xo 13 (by decide) (by decide) (by decide) (by decide)], ?_, ?_, ?_, ?_⟩
  · intro i hi
    rw [up_s, x4]
    by_cases e2 : i = t
    · rw [e2, upd_s, upd_s]
    · rw [upd_n e2, upd_n e2]
      exact zt i hi
  · intro d hd
    rw [up_n (a := 10 + d) (by omega), up_n (a := 3) (by decide), up_n (a := 4) (by decide), xo 0 (by decide) (by decide) (by decide) (by decide), xo 2 (by decide) (by decide) (by decide) (by decide), xo 3 (by decide) (by decide) (by decide) (by decide)]
    exact zd d hd
  · intro d h1 h2
    rw [up_n (a := 10 + d) (by omega)]
    exact ze d h1 h2
  · intro k hk
    rw [up_n (a := 40 + k) (by omega), xo 6 (by decide) (by decide) (by decide) (by decide), xo 7 (by decide) (by decide) (by decide) (by decide), xo 8 (by decide) (by decide) (by decide) (by decide)]
    exact zk k hk
theorem a_137 (hI : XI X T N K) (hZ : SR X Z T N K) (hV : XV X N w) {t p : Nat} (ht : t < T) (hp : p < T) (e : t ≠ p) (hb : bt (AB X p) t = false) : AC (fL_act_137 (nI t) (nI p) 100 X (up Z 1 t (nI p)) 0 0) w := by
  have hT := hI.1
  obtain ⟨X', q1, hI2, x4, xo⟩ := u_put hI ht hp e hb
  have hS := sr_parent hI hZ x4 xo
  have hXT2 := hI2.2.2.2.2.2.2.1
  have key := loop100 (f := fun n (x : Int32) i => fL_act_137 (nI t) (nI p) n X (up Z 1 t (nI p)) x i) (st := fun i => nI (fb_ct (bt (AB X' t)) i)) (T := T) (r := some (X', up Z 1 t (nI p))) (by omega) ?_ ?_
  · refine ⟨X', up Z 1 t (nI p), w, key, ⟨T, N, K, hI2, hS, xv_same hV (xo 3 (by decide) (by decide) (by decide) (by decide)) (xo 13 (by decide) (by decide) (by decide) (by decide))⟩, by omega⟩
  · intro n
    show fL_act_137 (nI t) (nI p) (n + 1) X (up Z 1 t (nI p)) _ _ = _
    rw [fL_act_137, hS.1, if_pos gT, q1, bS, pr_i, cntT (by omega) (ab_lt hI2 ht), if_pos rfl]
  · intro n i hi
    show fL_act_137 (nI t) (nI p) (n + 1) X (up Z 1 t (nI p)) _ _ = fL_act_137 (nI t) (nI p) n X (up Z 1 t (nI p)) (nI (fb_ct (bt (AB X' t)) (i + 1))) (nI (i + 1))
    rw [fL_act_137, hS.1, if_neg (gL hi (by omega)), z_isBelow hXT2 hT hS.2.2.2.2.1 ht (by omega), bS, fb_ct_succ, ← add_b]
    cases bt (ab (X' 4) (X' 5) t) i
    · rw [isF, if_pos rfl, fL_act_164, bS, bS, nI_1]
    · rw [isT, if_neg z10, fL_act_164, bS, bS, ← nI_add i 1]
      rfl
theorem a_free (hI : XI X T N K) (hZ : SR X Z T N K) (hV : XV X N w) {t : Nat} (ht : t < T) (hn : X 4 t ≠ -1) : ∃ X', fX3_freeTag X (nI t) = some (X 4 t, X') ∧ GI X' (up Z 1 t (-1)) w := by
  obtain ⟨X', q1, hI2, x4, xo⟩ := u_free hI ht hn
  exact ⟨X', q1, T, N, K, hI2, sr_parent hI hZ x4 xo, xv_same hV (xo 3 (by decide) (by decide) (by decide) (by decide)) (xo 13 (by decide) (by decide) (by decide) (by decide))⟩
theorem a_257 (hI : XI X T N K) (hZ : SR X Z T N K) (hV : XV X N w) (x : Int32) {t : Nat} (ht : t < T) : AC (fL_act_257 X Z x (nI t)) w := by
  have hT := hI.1
  have hN := hI.2.1
  obtain ⟨z34, z35, z36, z37, zt, zd, ze, zk⟩ := id hZ
  unfold fL_act_257
  rw [z35]
  by_cases e : N = 24
  · rw [if_pos (by rw [e]; rfl)]
    exact a_same hI hZ hV
  · obtain ⟨r, hr, hb⟩ := z_below (n := 9) (by omega) (by omega) (x >>> ((4 : Int32) &&& 31))
    have hb : fL_below (x >>> ((4 : Int32) &&& 31)) 9 = some (nI r) := hb
    have e9 : (1 : Int32) + nI r = nI (1 + r) := nI_add 1 r
    rw [if_neg (show ¬ nI N = 24 from fun q => e ((nI_eq (b := 24) (by omega) (by omega)).mp q)), ix_n (by omega) (by omega), bS, stoO_n (by omega) (by omega), bS, hb, bS, e9]
    obtain ⟨Z1, hZ1⟩ : ∃ z, z = up Z (10 + N) t 1 := ⟨_, rfl⟩
    have a1 : ∀ a, a ≠ 10 + N → Z1 a = Z a := fun a h => by rw [hZ1, up_n h]
    rw [← hZ1, a1 35 (by omega), z35, sto_n (by omega) (by omega), bS]
    obtain ⟨Z2, hZ2⟩ : ∃ z, z = up Z1 3 N (nI (1 + r)) := ⟨_, rfl⟩
    have a2 : ∀ a, a ≠ 3 → Z2 a = Z1 a := fun a h => by rw [hZ2, up_n h]
    rw [← hZ2, a2 35 (by omega), a1 35 (by omega), z35, a2 37 (by omega), a1 37 (by omega), z37, sto_n (by omega) (by omega), bS, bS]
    obtain ⟨Z3, hZ3⟩ : ∃ z, z = up Z2 4 N (X 13 0) := ⟨_, rfl⟩
    have a3 : ∀ a, a ≠ 4 → Z3 a = Z2 a := fun a h => by rw [hZ3, up_n h]
    rw [← hZ3, a3 35 (by omega), a2 35 (by omega), a1 35 (by omega), z35]
    obtain ⟨Z4, hZ4⟩ : ∃ z, z = up Z3 35 0 (nI N + 1) := ⟨_, rfl⟩
    have a4 : ∀ a, a ≠ 35 → Z4 a = Z3 a := fun a h => by rw [hZ4, up_n h]
    have y35 : Z4 35 0 = nI (N + 1) := by rw [hZ4, up_ss, nI_1]
    have y3 : Z4 3 = upd (Z 3) N (nI (1 + r)) := by rw [a4 3 (by omega), a3 3 (by omega), hZ2, up_s, a1 3 (by omega)]
    have y4 : Z4 4 = upd (Z 4) N (X 13 0) := by rw [a4 4 (by omega), hZ3, up_s, a2 4 (by omega), a1 4 (by omega)]
    have yN : Z4 (10 + N) = upd (Z (10 + N)) t 1 := by rw [a4 _ (by omega), a3 _ (by omega), a2 _ (by omega), hZ1, up_s]
    have yo : ∀ a, a ≠ 35 → a ≠ 4 → a ≠ 3 → a ≠ 10 + N → Z4 a = Z a := fun a h1 h2 h3 h4 => by rw [a4 a h1, a3 a h2, a2 a h3, a1 a h4]
    obtain ⟨X', q1, hI2, x0, x2, x3, xo⟩ := u_addDream hI (show N < 24 by omega) ht (show 1 ≤ 1 + r by omega) (show 1 + r ≤ 9 by omega)
    rw [← hZ4, y35, nI_pred, ld_n (by omega) (by omega), bS, y3, upd_s, q1, bS, pr_i, if_pos rfl]
    obtain ⟨hw, g, hg1, hg2⟩ := hV
    refine ⟨X', Z4, w, rfl, ⟨T, N + 1, K, hI2, ⟨?_, y35, ?_, ?_, ?_, ?_, ?_, ?_⟩, ?_, (fun d => if d = N then w else g d), ?_, ?_⟩, by omega⟩
    · rw [yo 34 (by omega) (by omega) (by omega) (by omega), z34]
    · rw [yo 36 (by omega) (by omega) (by omega) (by omega), z36]
    · rw [yo 37 (by omega) (by omega) (by omega) (by omega), z37, xo 13 (by decide) (by decide) (by decide) (by decide) (by decide) (by decide)]
    · intro i hi
      rw [yo 1 (by omega) (by omega) (by omega) (by omega), xo 4 (by decide) (by decide) (by decide) (by decide) (by decide) (by decide)]
      exact zt i hi
    · intro d hd
      rw [x0, x2, x3, y3, y4]
      by_cases e2 : d = N
      · subst e2
        rw [upd_s, upd_s, upd_s, upd_s, upd_s, yN]
        refine ⟨fun i hi => ?_, rfl, rfl⟩
        rw [bt_sb (by omega)]
        by_cases e3 : i = t
        · rw [e3, upd_s, decide_eq_true rfl]
          rfl
        · rw [upd_n e3, decide_eq_false e3]
          exact ze d (by omega) (by omega) i hi
      · rw [upd_n e2, upd_n e2, upd_n e2, upd_n e2, upd_n e2, yo (10 + d) (by omega) (by omega) (by omega) (by omega)]
        exact zd d (by omega)
    · intro d h1 h2
      rw [yo (10 + d) (by omega) (by omega) (by omega) (by omega)]
      exact ze d (by omega) h2
    · intro k hk
      rw [yo (40 + k) (by omega) (by omega) (by omega) (by omega), xo 6 (by decide) (by decide) (by decide) (by decide) (by decide) (by decide), xo 7 (by decide) (by decide) (by decide) (by decide) (by decide) (by decide), xo 8 (by decide) (by decide) (by decide) (by decide) (by decide) (by decide)]
      exact zk k hk
    · rw [xo 13 (by decide) (by decide) (by decide) (by decide) (by decide) (by decide), hw]
    · intro d hd
      show X' 3 d = nI (if d = N then w else g d) ∧ (if d = N then w else g d) ≤ w
      rw [x3]
      by_cases e2 : d = N
      · subst e2
        rw [upd_s, if_pos rfl, hw]
        exact ⟨rfl, Nat.le_refl _⟩
      · rw [upd_n e2, if_neg e2]
        exact hg1 d (by omega)
    · intro d hd
      show (if d = N then w else g d) ≤ if d + 1 = N then w else g (d + 1)
      rw [if_neg (by omega)]
      by_cases e2 : d + 1 = N
      · rw [if_pos e2]
        exact (hg1 d (by omega)).2
      · rw [if_neg e2]
        exact hg2 d (by omega)
/-- the own tags of one dream changed -/
theorem sr_own {X' : St} (hI : XI X T N K) (hZ : SR X Z T N K) {d t : Nat} {o v : Int32} (hd : d < N) (ht : t < T) (hv : ∀ i, i < 16 → upd (Z (10 + d)) t v i = if bt o i = true then 1 else 0) (x0 : X' 0 = upd (X 0) d o) (xo : ∀ a, a ≠ 0 → a ≠ 1 → a ≠ 9 → X' a = X a) : SR X' (up Z (10 + d) t v) T N K := by
  have hN := hI.2.1
  obtain ⟨z34, z35, z36, z37, zt, zd, ze, zk⟩ := id hZ
  refine ⟨by rw [up_n (by omega), z34], by rw [up_n (by omega), z35], by rw [up_n (by omega), z36], by rw [up_n (by omega), z37, xo 13 (by decide) (by decide) (by decide)], ?_, ?_, ?_, ?_⟩
  · intro i hi
    rw [up_n (by omega), xo 4 (by decide) (by decide) (by decide)]
    exact zt i hi
  · intro j hj
    rw [up_n (a := 3) (by omega), up_n (a := 4) (by omega), x0, xo 2 (by decide) (by decide) (by decide), xo 3 (by decide) (by decide) (by decide)]
    by_cases e2 : j = d
    · subst e2
      rw [up_s, upd_s]
      exact ⟨hv, (zd j hj).2⟩
    · rw [up_n (a := 10 + j) (by omega), upd_n e2]
      exact zd j hj
  · intro j h1 h2
    rw [up_n (a := 10 + j) (by omega)]
    exact ze j h1 h2
  · intro k hk
    rw [up_n (a := 40 + k) (by omega), xo 6 (by decide) (by decide) (by decide), xo 7 (by decide) (by decide) (by decide), xo 8 (by decide) (by decide) (by decide)]
    exact zk k hk
theorem a_tag (hI : XI X T N K) (hZ : SR X Z T N K) (hV : XV X N w) {d t : Nat} (hd : d < N) (ht : t < T) (hb : bt (X 0 d) t = false) : ∃ X' c, fX3_tagDream X (nI d) (nI t) = some (c, X') ∧ fX4_ownTags (up Z (10 + d) t 1) (nI d) = some c ∧ GI X' (up Z (10 + d) t 1) w := by
  have hN := hI.2.1
  have hT := hI.1
  obtain ⟨X', q1, hI2, x0, xo⟩ := u_tag hI hd ht hb
  have hv : ∀ i, i < 16 → upd (Z (10 + d)) t 1 i = if bt (X 0 d ||| sb t) i = true then 1 else 0 := fun i hi => by
    rw [b_or, bt_sb (by omega)]
    by_cases e : i = t
    · rw [e, upd_s, decide_eq_true rfl, Bool.or_true]
      rfl
    · rw [upd_n e, decide_eq_false e, Bool.or_false]
      exact (hZ.2.2.2.2.2.1 d hd).1 i hi
  refine ⟨X', _, q1, z_own (by omega) (by rw [up_s]; exact hv) (fun i hi => ?_), T, N, K, hI2, sr_own hI hZ hd ht hv x0 xo, xv_same hV (xo 3 (by decide) (by decide) (by decide)) (xo 13 (by decide) (by decide) (by decide))⟩
  rw [b_or, bt_sb (by omega)] at hi
  rcases (Bool.or_eq_true _ _).mp hi with hi | hi
  · exact x_own16 hI hd i hi
  · have : i = t := of_decide_eq_true hi
    omega
theorem a_untag (hI : XI X T N K) (hZ : SR X Z T N K) (hV : XV X N w) {d t : Nat} (hd : d < N) (ht : t < T) (hb : bt (X 0 d) t = true) (h1 : cnt (X 0 d) ≠ 1) : ∃ X' c, fX3_untagDream X (nI d) (nI t) = some (c, X') ∧ fX4_ownTags (up Z (10 + d) t 0) (nI d) = some c ∧ GI X' (up Z (10 + d) t 0) w := by
  have hN := hI.2.1
  have hT := hI.1
  obtain ⟨X', q1, hI2, x0, xo⟩ := u_untag hI hd ht hb (fun q => h1 (by rw [q]; exact cnt_sb (by omega)))
  have hv : ∀ i, i < 16 → upd (Z (10 + d)) t 0 i = if bt (X 0 d &&& (sb t ^^^ (-1))) i = true then 1 else 0 := fun i hi => by
    rw [b_and, bt_not _ (by omega), bt_sb (by omega)]
    by_cases e : i = t
    · rw [e, upd_s, decide_eq_true rfl, Bool.not_true, Bool.and_false]
      rfl
    · rw [upd_n e, decide_eq_false e, Bool.not_false, Bool.and_true]
      exact (hZ.2.2.2.2.2.1 d hd).1 i hi
  refine ⟨X', _, q1, z_own (by omega) (by rw [up_s]; exact hv) (fun i hi => ?_), T, N, K, hI2, sr_own hI hZ hd ht hv x0 xo, xv_same hV (xo 3 (by decide) (by decide) (by decide)) (xo 13 (by decide) (by decide) (by decide))⟩
  rw [b_and] at hi
  exact x_own16 hI hd i ((Bool.and_eq_true _ _).mp hi).1
/-- the vividness changed -/
theorem sr_vivid {X' Z' : St} (hI : XI X T N K) (hZ : SR X Z T N K) (y3 : ∀ d, d < N → Z' 3 d = X' 2 d) (y37 : Z' 37 0 = X' 13 0) (yo : ∀ a, a ≠ 3 → a ≠ 37 → Z' a = Z a) (xo : ∀ a, a ≠ 2 → a ≠ 13 → X' a = X a) : SR X' Z' T N K := by
  have hN := hI.2.1
  obtain ⟨z34, z35, z36, z37, zt, zd, ze, zk⟩ := id hZ
  refine ⟨by rw [yo 34 (by decide) (by decide), z34], by rw [yo 35 (by decide) (by decide), z35], by rw [yo 36 (by decide) (by decide), z36], y37, ?_, ?_, ?_, ?_⟩
  · intro i hi
    rw [yo 1 (by decide) (by decide), xo 4 (by decide) (by decide)]
    exact zt i hi
  · intro d hd
    rw [yo (10 + d) (by omega) (by omega), yo 4 (by decide) (by decide), xo 0 (by decide) (by decide), xo 3 (by decide) (by decide)]
    exact ⟨(zd d hd).1, y3 d hd, (zd d hd).2.2⟩
  · intro d h1 h2
    rw [yo (10 + d) (by omega) (by omega)]
    exact ze d h1 h2
  · intro k hk
    rw [yo (40 + k) (by omega) (by omega), xo 6 (by decide) (by decide), xo 7 (by decide) (by decide), xo 8 (by decide) (by decide)]
    exact zk k hk
theorem a_recall (hI : XI X T N K) (hZ : SR X Z T N K) (hV : XV X N w) {d v : Nat} (hd : d < N) (hv : v ≤ 9) : fX3_recall X (nI d) (nI v) = some (X 2 d, up X 2 d (nI v)) ∧ GI (up X 2 d (nI v)) (up Z 3 d (nI v)) w := by
  obtain ⟨q1, hI2⟩ := u_recall hI hd hv
  refine ⟨q1, T, N, K, hI2, sr_vivid hI hZ ?_ ?_ (fun a h _ => up_n h) (fun a h _ => up_n h), xv_same hV (up_n (by decide)) (up_n (by decide))⟩
  · intro j hj
    by_cases e : j = d
    · rw [e, up_ss, up_ss]
    · rw [up_sn e, up_sn e]
      exact (hZ.2.2.2.2.2.1 j hj).2.1
  · rw [up_n (by decide), up_n (by decide)]
    exact hZ.2.2.2.1
theorem a_588 (hI : XI X T N K) (hZ : SR X Z T N K) (hV : XV X N w) {n : Nat} (h1 : 1 ≤ n) (hn : n ≤ 3) : AC (fL_act_588 (nI n) 100 X Z (fun _ => 0) 0) w := by
  have hN := hI.2.1
  obtain ⟨X', q1, hI2, x2, x13, xo⟩ := u_pass hI h1 (show n ≤ 30 by omega)
  obtain ⟨f, hf⟩ : ∃ f : Nat → Int32, f = fun d => va (X 0) (X 2) N d (nI n) := ⟨_, rfl⟩
  obtain ⟨Z', hZ'⟩ : ∃ z, z = up (sR Z 3 (fil f (Z 3) N)) 37 0 (Z 37 0 + nI n) := ⟨_, rfl⟩
  have y3 : Z' 3 = fil f (Z 3) N := by rw [hZ', up_n (by decide), sR_s]
  have yo : ∀ a, a ≠ 3 → a ≠ 37 → Z' a = Z a := fun a h2 h3 => by rw [hZ', up_n h3, sR_n h2]
  have hS : SR X' Z' T N K := by
    refine sr_vivid hI hZ (fun d hd => ?_) ?_ yo xo
    · rw [y3, fil_in hd, x2 d hd, hf]
    · rw [hZ', up_ss, x13, hZ.2.2.2.1]
  have zf : fX4_faded Z' 0 = some (nI (fdc (X' 0) (X' 2) N 0 N)) := by
    have := z_faded hI2 hS (m := 0) (by omega)
    rw [nI_0] at this
    exact this
  have h619 : fL_act_619 (nI n) 100 X Z (fil f (fun _ => 0) N) 0 = some (X', Z') := by
    have key := loop100 (f := fun m (z : St) i => fL_act_619 (nI n) m X z (fil f (fun _ => 0) N) i) (st := fun i => sR Z 3 (fil f (Z 3) i)) (T := N) (r := some (X', Z')) (by omega) ?_ ?_
    · rw [fil_0, sR_id] at key
      exact key
    · intro m
      show fL_act_619 (nI n) (m + 1) X _ _ _ = _
      rw [fL_act_619, sR_n (a := 35) (by decide), hZ.2.1, if_pos gT, bS, sR_n (a := 37) (by decide), ← hZ', q1, bS, pr_i, zf, bS, if_pos rfl]
    · intro m i hi
      show fL_act_619 (nI n) (m + 1) X _ _ _ = fL_act_619 (nI n) m X (sR Z 3 (fil f (Z 3) (i + 1))) (fil f (fun _ => 0) N) (nI (i + 1))
      rw [fL_act_619, sR_n (a := 35) (by decide), hZ.2.1, if_neg (gL hi (by omega))]
      have hl : ldA (fil f (fun _ => 0) N) 24 (nI i) = some (f i) := by
        unfold ldA
        rw [if_neg (nI_in (by omega) (by omega)), nI_clamp (by omega), fil_in hi]
      rw [hl, bS, sto_n (by omega) (by omega), bS, bS, nI_1, up_sR, fil_s f]
  have key := loop100 (f := fun m (A : Nat → Int32) i => fL_act_588 (nI n) m X Z A i) (st := fun i => fil f (fun _ => 0) i) (T := N) (r := some (X', Z')) (by omega) ?_ ?_
  · rw [fil_0] at key
    obtain ⟨hw, g, hg1, hg2⟩ := hV
    refine ⟨X', Z', w + n, key, ⟨T, N, K, hI2, hS, ?_, g, fun d hd => ?_, hg2⟩, by omega⟩
    · rw [x13, hw, nI_add]
    · rw [xo 3 (by decide) (by decide)]
      have := hg1 d hd
      exact ⟨this.1, by omega⟩
  · intro m
    show fL_act_588 (nI n) (m + 1) X Z _ _ = _
    rw [fL_act_588, hZ.2.1, if_pos gT, h619]
  · intro m i hi
    show fL_act_588 (nI n) (m + 1) X Z _ _ = fL_act_588 (nI n) m X Z (fil f (fun _ => 0) (i + 1)) (nI (i + 1))
    have hs : stA (fil f (fun _ => 0) i) 24 (nI i) (f i) = some (fil f (fun _ => 0) (i + 1)) := by
      unfold stA
      rw [if_neg (nI_in (by omega) (by omega)), nI_clamp (by omega), fil_s f]
    rw [fL_act_588, hZ.2.1, if_neg (gL hi (by omega)), z_later hI hZ hi (by omega), bS, show va (X 0) (X 2) N i (nI n) = f i by rw [hf], hs, bS, bS, nI_1]
theorem a_clear (hI : XI X T N K) (hZ : SR X Z T N K) (hV : XV X N w) : fX3_clearTerms X = some (nI K, up X 15 0 0) ∧ GI (up X 15 0 0) (up Z 36 0 0) w := by
  have hN := hI.2.1
  obtain ⟨q1, hI2⟩ := u_clear hI
  obtain ⟨z34, z35, z36, z37, zt, zd, ze, zk⟩ := id hZ
  refine ⟨q1, T, N, 0, hI2, ⟨by rw [up_n (by decide), z34], by rw [up_n (by decide), z35], by rw [up_ss]; rfl, by rw [up_n (by decide), up_n (by decide), z37], ?_, ?_, ?_, fun k hk => absurd hk (Nat.not_lt_zero _)⟩, xv_same hV (up_n (by decide)) (up_n (by decide))⟩
  · intro i hi
    rw [up_n (by decide), up_n (by decide)]
    exact zt i hi
  · intro d hd
    rw [up_n (a := 10 + d) (by omega), up_n (a := 3) (by decide), up_n (a := 4) (by decide), up_n (a := 0) (by decide), up_n (a := 2) (by decide), up_n (a := 3) (by decide)]
    exact zd d hd
  · intro d h1 h2
    rw [up_n (a := 10 + d) (by omega)]
    exact ze d h1 h2
theorem a_term (hI : XI X T N K) (hZ : SR X Z T N K) (hV : XV X N w) (hK : K < 20) {kd a b b' : Int32} (hs : tsh kd a b T K) (hb : kd = 1 ∨ kd = 2 → b' = b) : ∃ X', fX3_addTerm X kd a b = some (nI K, X') ∧ GI X' (ntermS Z (nI K) K kd a b') w := by
  have hN := hI.2.1
  obtain ⟨X', q1, hI2, x6, x7, x8, xo⟩ := u_add hI hK hs
  obtain ⟨z34, z35, z36, z37, zt, zd, ze, zk⟩ := id hZ
  obtain ⟨Z', hZ'⟩ : ∃ z, z = ntermS Z (nI K) K kd a b' := ⟨_, rfl⟩
  have yK : Z' (40 + K) = nrow kd a b' := by rw [hZ']; exact if_pos rfl
  have y36 : Z' 36 0 = nI (K + 1) := by
    rw [hZ']
    unfold ntermS
    rw [if_neg (by omega), up_ss, nI_1]
  have yo : ∀ c, c ≠ 40 + K → c ≠ 36 → Z' c = Z c := fun c h1 h2 => by
    rw [hZ']
    unfold ntermS
    rw [if_neg h1, up_n h2]
  rw [← hZ']
  refine ⟨X', q1, T, N, K + 1, hI2, ⟨by rw [yo 34 (by omega) (by omega), z34], by rw [yo 35 (by omega) (by omega), z35], y36, by rw [yo 37 (by omega) (by omega), z37, xo 13 (by decide) (by decide) (by decide) (by decide) (by decide)], ?_, ?_, ?_, ?_⟩, xv_same hV (xo 3 (by decide) (by decide) (by decide) (by decide) (by decide)) (xo 13 (by decide) (by decide) (by decide) (by decide) (by decide))⟩
  · intro i hi
    rw [yo 1 (by omega) (by omega), xo 4 (by decide) (by decide) (by decide) (by decide) (by decide)]
    exact zt i hi
  · intro d hd
    rw [yo (10 + d) (by omega) (by omega), yo 3 (by omega) (by omega), yo 4 (by omega) (by omega), xo 0 (by decide) (by decide) (by decide) (by decide) (by decide), xo 2 (by decide) (by decide) (by decide) (by decide) (by decide), xo 3 (by decide) (by decide) (by decide) (by decide) (by decide)]
    exact zd d hd
  · intro d h1 h2
    rw [yo (10 + d) (by omega) (by omega)]
    exact ze d h1 h2
  · intro k hk
    rw [x6, x7, x8]
    by_cases e : k = K
    · subst e
      rw [upd_s, upd_s, upd_s, yK]
      exact ⟨rfl, rfl, hb⟩
    · rw [upd_n e, upd_n e, upd_n e, yo (40 + k) (by omega) (by omega)]
      exact zk k (by omega)
end ACT
