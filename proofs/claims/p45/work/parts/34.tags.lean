/-! ROWS OF A STATE BY NAME -/
def sR (S : St) (k : Nat) (f : Nat → Int32) : St := fun a => if a = k then f else S a
theorem sR_s (S : St) (k : Nat) (f : Nat → Int32) : sR S k f k = f := by unfold sR; rw [if_pos rfl]
theorem sR_n {S : St} {k a : Nat} {f : Nat → Int32} (h : a ≠ k) : sR S k f a = S a := by unfold sR; rw [if_neg h]
theorem sR_id (S : St) (k : Nat) : sR S k (S k) = S := by
  funext a
  by_cases h : a = k
  · subst h; rw [sR_s]
  · rw [sR_n h]
theorem up_sR (S : St) (k : Nat) (f : Nat → Int32) (j : Nat) (v : Int32) : up (sR S k f) k j v = sR S k (upd f j v) := by
  funext a
  by_cases h : a = k
  · subst h; rw [up_s, sR_s, sR_s]
  · rw [up_n h, sR_n h, sR_n h]
theorem up_eq (S : St) (k j : Nat) (v : Int32) : up S k j v = sR S k (upd (S k) j v) := by
  have := up_sR S k (S k) j v
  rwa [sR_id] at this
def fil (f g : Nat → Int32) (i : Nat) : Nat → Int32 := fun t => if t < i then f t else g t
theorem fil_0 (f g : Nat → Int32) : fil f g 0 = g := by funext t; unfold fil; rw [if_neg (Nat.not_lt_zero t)]
theorem fil_s (f g : Nat → Int32) (i : Nat) : upd (fil f g i) i (f i) = fil f g (i + 1) := by
  funext t
  unfold upd fil
  by_cases h : t = i
  · subst h
    rw [if_pos rfl, if_pos (Nat.lt_succ_self t)]
  · rw [if_neg h]
    by_cases h2 : t < i
    · rw [if_pos h2, if_pos (by omega)]
    · rw [if_neg h2, if_neg (by omega)]
theorem fil_in {f g : Nat → Int32} {i t : Nat} (h : t < i) : fil f g i t = f t := if_pos h
theorem fil_out {f g : Nat → Int32} {i t : Nat} (h : ¬ t < i) : fil f g i t = g t := if_neg h
theorem upd_s (f : Nat → Int32) (k : Nat) (v : Int32) : upd f k v k = v := if_pos rfl
theorem upd_n {f : Nat → Int32} {k j : Nat} {v : Int32} (h : j ≠ k) : upd f k v j = f j := if_neg h
theorem nI_m1 {p : Nat} (h : p < 2 ^ 31) : nI p ≠ -1 := fun e => by
  have h1 := nI_toInt h
  rw [e] at h1
  have : (-1 : Int32).toInt = -1 := by decide
  omega
/-! THE TREE OF TAGS -/
def ab (P L : Nat → Int32) (t : Nat) : Int32 := if P t = -1 then 0 else L (P t).toNatClampNeg
section TREE
variable {P L : Nat → Int32} {T : Nat}
theorem tt_c (h : TT P L T) (hT : T ≤ 16) {t : Nat} (ht : t < T) : (P t = -1 ∧ ab P L t = 0) ∨ ∃ p, p < T ∧ P t = nI p ∧ ab P L t = L p ∧ bt (L p) t = false := by
  rcases h.1 t ht with h1 | ⟨p, hp, h1⟩
  · exact Or.inl ⟨h1, if_pos h1⟩
  · have h2 : P t ≠ -1 := by rw [h1]; exact nI_m1 (by omega)
    have h3 : (P t).toNatClampNeg = p := by rw [h1]; exact nI_clamp (by omega)
    have h4 := h.2.2.1 t ht h2
    rw [h3] at h4
    exact Or.inr ⟨p, hp, h1, by unfold ab; rw [if_neg h2, h3], h4⟩
theorem tt_L (h : TT P L T) {t : Nat} (ht : t < T) : L t = sb t ||| ab P L t := h.2.1 t ht
theorem tt_no (h : TT P L T) (hT : T ≤ 16) {t : Nat} (ht : t < T) : bt (ab P L t) t = false := by
  rcases tt_c h hT ht with ⟨-, h1⟩ | ⟨p, -, -, h1, h2⟩
  · rw [h1, b_0]
  · rw [h1, h2]
theorem tt_b (h : TT P L T) (hT : T ≤ 16) {t : Nat} (ht : t < T) (i : Nat) : bt (L t) i = (decide (i = t) || bt (ab P L t) i) := by
  rw [tt_L h ht, b_or, bt_sb (by omega)]
theorem tt_self (h : TT P L T) (hT : T ≤ 16) {t : Nat} (ht : t < T) : bt (L t) t = true := by
  rw [tt_b h hT ht]
  simp
theorem tt_ab (h : TT P L T) (hT : T ≤ 16) {t : Nat} (ht : t < T) (i : Nat) : bt (ab P L t) i = (bt (L t) i && !decide (i = t)) := by
  rw [tt_b h hT ht]
  by_cases hi : i = t
  · subst hi
    rw [tt_no h hT ht]
    simp
  · simp [hi]
theorem tt_rank (h : TT P L T) (hT : T ≤ 16) {t : Nat} (ht : t < T) : cnt (L t) = cnt (ab P L t) + 1 := by
  rw [tt_L h ht, cnt_or (fun i hi => ?_), cnt_sb (by omega), Nat.add_comm]
  obtain ⟨h1, h2⟩ := hi
  rw [bt_sb (by omega)] at h1
  have : i = t := of_decide_eq_true h1
  subst this
  rw [tt_no h hT ht] at h2
  cases h2
theorem tt_16 (h : TT P L T) (hT : T ≤ 16) {t : Nat} (ht : t < T) : cnt (L t) ≤ T := cnt_bd (by omega) (h.2.2.2 t ht)
theorem tt_tr (h : TT P L T) (hT : T ≤ 16) : ∀ (r t : Nat), t < T → cnt (L t) = r → ∀ a, bt (L t) a = true → ∀ i, bt (L a) i = true → bt (L t) i = true := by
  intro r
  induction r with
  | zero =>
    intro t ht hr
    have := tt_rank h hT ht
    omega
  | succ r ih =>
    intro t ht hr a ha i hi
    rw [tt_b h hT ht] at ha ⊢
    rcases (Bool.or_eq_true _ _).mp ha with ha | ha
    · have : a = t := of_decide_eq_true ha
      subst this
      rw [tt_b h hT ht] at hi
      exact hi
    · rcases tt_c h hT ht with ⟨-, h1⟩ | ⟨p, hp, -, h1, -⟩
      · rw [h1, b_0] at ha
        cases ha
      · rw [h1] at ha ⊢
        have hr2 : cnt (L p) = r := by
          have := tt_rank h hT ht
          rw [h1] at this
          omega
        rw [ih p hp hr2 a ha i hi, Bool.or_true]
theorem tt_trans (h : TT P L T) (hT : T ≤ 16) {t a i : Nat} (ht : t < T) (ha : bt (L t) a = true) (hi : bt (L a) i = true) : bt (L t) i = true := tt_tr h hT _ t ht rfl a ha i hi
theorem tt_anti (h : TT P L T) (hT : T ≤ 16) {t a : Nat} (ht : t < T) (ha : bt (L t) a = true) (hb : bt (L a) t = true) : a = t := by
  rw [tt_b h hT ht] at ha
  rcases (Bool.or_eq_true _ _).mp ha with ha | ha
  · exact of_decide_eq_true ha
  · rcases tt_c h hT ht with ⟨-, h1⟩ | ⟨p, hp, -, h1, h2⟩
    · rw [h1, b_0] at ha
      cases ha
    · rw [h1] at ha
      have := tt_trans h hT hp ha hb
      rw [h2] at this
      cases this
/-- two lines of the same parents are the same -/
theorem tt_unique {L' : Nat → Int32} (h : TT P L T) (h' : TT P L' T) (hT : T ≤ 16) : ∀ (r t : Nat), t < T → cnt (L t) = r → L t = L' t := by
  intro r
  induction r with
  | zero =>
    intro t ht hr
    have := tt_rank h hT ht
    omega
  | succ r ih =>
    intro t ht hr
    rw [tt_L h ht, tt_L h' ht]
    congr 1
    rcases tt_c h hT ht with ⟨h0, h1⟩ | ⟨p, hp, h0, h1, -⟩
    · rw [h1]
      unfold ab
      rw [if_pos h0]
    · have hr2 : cnt (L p) = r := by
        have := tt_rank h hT ht
        rw [h1] at this
        omega
      rw [h1, ih p hp hr2]
      unfold ab
      rw [if_neg (by rw [h0]; exact nI_m1 (by omega)), h0, nI_clamp (by omega)]
theorem tt_congr {P' L' : Nat → Int32} (h : TT P L T) (hT : T ≤ 16) (hP : ∀ t, t < T → P' t = P t) (hL : ∀ t, t < T → L' t = L t) : TT P' L' T := by
  refine ⟨fun t ht => by rw [hP t ht]; exact h.1 t ht, fun t ht => ?_, fun t ht hn => ?_, fun t ht => by rw [hL t ht]; exact h.2.2.2 t ht⟩
  · rw [hL t ht, hP t ht, h.2.1 t ht]
    rcases tt_c h hT ht with ⟨h0, -⟩ | ⟨p, hp, h0, -, -⟩
    · rw [if_pos h0, if_pos h0]
    · rw [h0, nI_clamp (by omega), hL p hp]
  · rw [hP t ht] at hn ⊢
    rcases tt_c h hT ht with ⟨h0, -⟩ | ⟨p, hp, h0, -, h2⟩
    · exact absurd h0 hn
    · rw [h0, nI_clamp (by omega), hL p hp]
      exact h2
end TREE
/-! the two walks up -/
theorem lineFrom_7 {S : St} {L : Nat → Int32} {T : Nat} (hS : S 14 0 = nI T) (hT : T ≤ 16) (h : TT (S 4) L T) : ∀ (r t n : Nat) (a : Int32) (st : Nat), t < T → cnt (L t) = r → st + r ≤ 16 → r < n → fX1_lineFrom_7 S n a (nI t) (nI st) = some (a ||| L t) := by
  intro r
  induction r with
  | zero =>
    intro t n a st ht hr
    have := tt_rank h hT ht
    omega
  | succ r ih =>
    intro t n a st ht hr hst hn
    obtain ⟨n, rfl⟩ : ∃ k, n = k + 1 := ⟨n - 1, by omega⟩
    rw [fX1_lineFrom_7, show (16 : Int32) = nI 16 from rfl, if_neg (nI_ge (by omega) (by omega)), if_neg (nI_pos (by omega)), hS, if_neg (nI_ge ht (by omega)), bS, ld_n (by omega) (by omega), bS, bS, nI_1]
    show fX1_lineFrom_7 S n (a ||| sb t) (S 4 t) (nI (st + 1)) = _
    have hrk := tt_rank h hT ht
    rcases tt_c h hT ht with ⟨h0, h1⟩ | ⟨p, hp, h0, h1, -⟩
    · obtain ⟨n, rfl⟩ : ∃ k, n = k + 1 := ⟨n - 1, by omega⟩
      rw [h0, fX1_lineFrom_7]
      have : some (a ||| sb t) = some (a ||| L t) := by rw [tt_L h ht, h1]; simp
      split
      · exact this
      · rw [if_pos (by decide)]
        exact this
    · rw [h0, ih p n _ _ hp (by rw [h1] at hrk; omega) (by omega) (by omega), tt_L h ht, h1, Int32.or_assoc]
theorem lineFrom_n {S : St} {L : Nat → Int32} {T : Nat} (hS : S 14 0 = nI T) (hT : T ≤ 16) (h : TT (S 4) L T) {t : Nat} (ht : t < T) : fX1_lineFrom S (nI t) = some (L t) := by
  have h1 := tt_16 h hT ht
  unfold fX1_lineFrom
  rw [show (fX1_lineFrom_7 S 100 0 (nI t) 0) = fX1_lineFrom_7 S 100 0 (nI t) (nI 0) from rfl, lineFrom_7 hS hT h _ t 100 0 0 ht rfl (by omega) (by omega)]
  simp
/-! a tag goes under another one -/
theorem hang_n {S : St} {L : Nat → Int32} {T tag : Nat} {pa : Int32} (hS : S 14 0 = nI T) (hT : T ≤ 16) (ht : tag < 16) (h : TT (upd (S 4) tag pa) L T) : fX1_hang S (nI tag) pa = some (sR (sR S 4 (upd (S 4) tag pa)) 5 (fil L (S 5) T)) := by
  unfold fX1_hang
  rw [sto_n ht (by omega), bS, up_eq]
  have key := loop100 (f := fX1_hang_9) (st := fun i => sR (sR S 4 (upd (S 4) tag pa)) 5 (fil L (S 5) i)) (T := T) (r := some (sR (sR S 4 (upd (S 4) tag pa)) 5 (fil L (S 5) T))) (by omega) ?_ ?_
  · rw [fil_0] at key
    rw [show (sR (sR S 4 (upd (S 4) tag pa)) 5 (S 5)) = sR S 4 (upd (S 4) tag pa) from (by rw [show S 5 = sR S 4 (upd (S 4) tag pa) 5 from (sR_n (by decide)).symm, sR_id])] at key
    exact key
  · intro n
    have h14 : (sR (sR S 4 (upd (S 4) tag pa)) 5 (fil L (S 5) T)) 14 0 = nI T := by rw [sR_n (by decide), sR_n (by decide), hS]
    rw [fX1_hang_9, h14, if_pos gT]
  · intro n i hi
    have h14 : (sR (sR S 4 (upd (S 4) tag pa)) 5 (fil L (S 5) i)) 14 0 = nI T := by rw [sR_n (by decide), sR_n (by decide), hS]
    have h4 : (sR (sR S 4 (upd (S 4) tag pa)) 5 (fil L (S 5) i)) 4 = upd (S 4) tag pa := by rw [sR_n (by decide), sR_s]
    rw [fX1_hang_9, h14, if_neg (gL hi (by omega)), lineFrom_n h14 hT (by rw [h4]; exact h) hi, bS, sto_n (by omega) (by omega), bS, bS, nI_1, up_sR, fil_s]
/-- the lines of the parents with one changed -/
def nline (P L : Nat → Int32) (tag : Nat) (pl : Int32) : Nat → Int32 := fun t => if bt (L t) tag = true then (L t &&& (ab P L tag ^^^ (-1))) ||| pl else L t
theorem tt_move {P L : Nat → Int32} {T tag : Nat} (h : TT P L T) (hT : T ≤ 16) (ht : tag < T) {pa pl : Int32} (hpa : (pa = -1 ∧ pl = 0) ∨ ∃ p, p < T ∧ pa = nI p ∧ pl = L p ∧ bt (L p) tag = false) : TT (upd P tag pa) (nline P L tag pl) T := by
  have nb : ∀ t i, i < 32 → bt (nline P L tag pl t) i = if bt (L t) tag = true then ((bt (L t) i && !bt (ab P L tag) i) || bt pl i) else bt (L t) i := by
    intro t i hi
    unfold nline
    by_cases hb : bt (L t) tag = true
    · rw [if_pos hb, if_pos hb, b_or, b_and, bt_not _ hi]
    · rw [if_neg hb, if_neg hb]
  have plb : ∀ i, bt pl i = true → i < T ∧ ∃ p, p < T ∧ pa = nI p ∧ pl = L p := by
    intro i hi
    rcases hpa with ⟨-, h2⟩ | ⟨p, hp, h1, h2, -⟩
    · rw [h2, b_0] at hi
      cases hi
    · rw [h2] at hi
      exact ⟨h.2.2.2 p hp i hi, p, hp, h1, h2⟩
  have pln : bt pl tag = false := by
    rcases hpa with ⟨-, h2⟩ | ⟨p, hp, h1, h2, h3⟩
    · rw [h2, b_0]
    · rw [h2, h3]
  refine ⟨fun t htT => ?_, fun t htT => ?_, fun t htT hn => ?_, fun t htT i hi => ?_⟩
  · by_cases e : t = tag
    · subst e
      rw [upd_s]
      rcases hpa with ⟨h1, -⟩ | ⟨p, hp, h1, -⟩
      · exact Or.inl h1
      · exact Or.inr ⟨p, hp, h1⟩
    · rw [upd_n e]
      exact h.1 t htT
  · by_cases e : t = tag
    · subst e
      rw [upd_s]
      have hv : (if pa = -1 then (0 : Int32) else nline P L t pl pa.toNatClampNeg) = pl := by
        rcases hpa with ⟨h1, h2⟩ | ⟨p, hp, h1, h2, h3⟩
        · rw [if_pos h1, h2]
        · rw [h1, if_neg (nI_m1 (by omega)), nI_clamp (by omega)]
          unfold nline
          rw [h3, h2]
          rfl
      rw [hv]
      refine b_ext fun i hi => ?_
      rw [nb _ _ hi, if_pos (tt_self h hT ht), b_or, bt_sb (by omega), tt_b h hT ht]
      by_cases e2 : i = t
      · subst e2
        rw [tt_no h hT ht]
        simp
      · cases bt (ab P L t) i <;> simp [e2]
    · rw [upd_n e]
      rcases tt_c h hT htT with ⟨h0, h1⟩ | ⟨p, hp, h0, h1, h2⟩
      · rw [if_pos h0]
        have hnt : bt (L t) tag = false := by
          rw [tt_b h hT htT, h1, b_0, decide_eq_false (fun q => e q.symm)]
          rfl
        unfold nline
        rw [hnt, if_neg (by decide), tt_L h htT, h1]
      · rw [h0, if_neg (nI_m1 (by omega)), nI_clamp (by omega)]
        have hbt : bt (L t) tag = bt (L p) tag := by
          rw [tt_b h hT htT, h1, decide_eq_false (fun q => e q.symm)]
          rfl
        refine b_ext fun i hi => ?_
        rw [b_or, bt_sb (by omega), nb _ _ hi, nb _ _ hi, hbt]
        by_cases hb : bt (L p) tag = true
        · rw [if_pos hb, if_pos hb, tt_b h hT htT, h1]
          by_cases e2 : i = t
          · subst e2
            have hu : bt (ab P L tag) i = false := by
              cases hq : bt (ab P L tag) i
              · rfl
              · have hq2 : bt (L tag) i = true := by rw [tt_b h hT ht, hq, Bool.or_true]
                exact absurd (tt_anti h hT htT (by rw [hbt]; exact hb) hq2) (fun q => e q.symm)
            rw [hu]
            simp
          · simp [e2]
        · rw [if_neg hb, if_neg hb, tt_b h hT htT, h1]
  · by_cases e : t = tag
    · subst e
      rw [upd_s] at hn ⊢
      rcases hpa with ⟨h1, -⟩ | ⟨p, hp, h1, h2, h3⟩
      · exact absurd h1 hn
      · rw [h1, nI_clamp (by omega)]
        unfold nline
        rw [h3, if_neg (by decide), h3]
    · rw [upd_n e] at hn ⊢
      rcases tt_c h hT htT with ⟨h0, -⟩ | ⟨p, hp, h0, h1, h2⟩
      · exact absurd h0 hn
      · rw [h0, nI_clamp (by omega), nb _ _ (by omega)]
        by_cases hb : bt (L p) tag = true
        · rw [if_pos hb, h2]
          cases hq : bt pl t
          · rfl
          · obtain ⟨-, p', hp', -, hpl⟩ := plb t hq
            rw [hpl] at hq pln
            have htag : bt (L t) tag = true := by
              rw [tt_b h hT htT, h1, hb, Bool.or_true]
            have := tt_trans h hT hp' hq htag
            rw [pln] at this
            cases this
        · rw [if_neg hb, h2]
  · rw [nb _ _ (bt_lt hi)] at hi
    split at hi
    · rcases (Bool.or_eq_true _ _).mp hi with hi | hi
      · exact h.2.2.2 t htT i ((Bool.and_eq_true _ _).mp hi).1
      · exact (plb i hi).1
    · exact h.2.2.2 t htT i hi
/-- a new tag, under none -/
theorem tt_grow {P L : Nat → Int32} {T : Nat} (h : TT P L T) (hT : T < 16) : TT (upd P T (-1)) (upd L T (sb T)) (T + 1) := by
  have hle : T ≤ 16 := by omega
  refine ⟨fun t ht => ?_, fun t ht => ?_, fun t ht hn => ?_, fun t ht i hi => ?_⟩
  · by_cases e : t = T
    · subst e
      rw [upd_s]
      exact Or.inl rfl
    · rw [upd_n e]
      rcases h.1 t (by omega) with h1 | ⟨p, hp, h1⟩
      · exact Or.inl h1
      · exact Or.inr ⟨p, by omega, h1⟩
  · by_cases e : t = T
    · subst e
      rw [upd_s, upd_s, if_pos rfl]
      simp
    · rw [upd_n e, upd_n e]
      rcases tt_c h hle (show t < T by omega) with ⟨h0, h1⟩ | ⟨p, hp, h0, h1, -⟩
      · rw [if_pos h0, tt_L h (show t < T by omega), h1]
      · rw [h0, if_neg (nI_m1 (by omega)), nI_clamp (by omega), upd_n (by omega), tt_L h (show t < T by omega), h1]
  · by_cases e : t = T
    · subst e
      rw [upd_s] at hn
      exact absurd rfl hn
    · rw [upd_n e] at hn ⊢
      rcases tt_c h hle (show t < T by omega) with ⟨h0, h1⟩ | ⟨p, hp, h0, h1, h2⟩
      · exact absurd h0 hn
      · rw [h0, nI_clamp (by omega), upd_n (by omega)]
        exact h2
  · by_cases e : t = T
    · subst e
      rw [upd_s, bt_sb (by omega)] at hi
      have : i = t := of_decide_eq_true hi
      omega
    · rw [upd_n e] at hi
      have := h.2.2.2 t (by omega) i hi
      omega

