/-! READING -/
theorem n10 : ¬ ((1 : Int32) = 0) := by decide
theorem ab_m {P P' L : Nat → Int32} {t : Nat} (h : P' t = P t) : ab P' L t = ab P L t := by unfold ab; rw [h]
theorem countAbove_n {X : St} {T : Nat} (h : TT (X 4) (X 5) T) (hT : T ≤ 16) {t : Nat} (ht : t < T) : fX1_countAbove X (nI t) = some (nI (cnt (ab (X 4) (X 5) t))) := by
  unfold fX1_countAbove
  rw [ld_n (by omega) (by omega), bS, bitCount_n, bS, tt_rank h hT ht, nI_pred]
theorem standsBelow_n {X : St} {T : Nat} (h : TT (X 4) (X 5) T) (hT : T ≤ 16) {t u : Nat} (ht : t < T) (hu : u < 32) : fX1_standsBelow X (nI t) (nI u) = some (if bt (ab (X 4) (X 5) t) u = true then 1 else 0) := by
  unfold fX1_standsBelow
  by_cases e : t = u
  · subst e
    rw [if_pos rfl, tt_no h hT ht]
    rfl
  · rw [if_neg (fun q => e ((nI_eq (by omega) (by omega)).mp q)), ld_n (by omega) (by omega), bS, isIn_n hu, bS, tt_b h hT ht, decide_eq_false (fun q => e q.symm), Bool.false_or]
    cases bt (ab (X 4) (X 5) t) u <;> rfl
theorem countBelow_n {X : St} {T : Nat} (h14 : X 14 0 = nI T) (h : TT (X 4) (X 5) T) (hT : T ≤ 16) {u : Nat} (hu : u < 32) : fX1_countBelow X (nI u) = some (nI (fb_ct (fun i => bt (ab (X 4) (X 5) i) u) T)) := by
  unfold fX1_countBelow
  refine loop100 (f := fX1_countBelow_4 X (nI u)) (st := fun i => nI (fb_ct (fun i => bt (ab (X 4) (X 5) i) u) i)) (T := T) (by omega) ?_ ?_
  · intro n
    rw [fX1_countBelow_4, h14, if_pos gT]
  · intro n i hi
    rw [fX1_countBelow_4, h14, if_neg (gL hi (by omega)), standsBelow_n h hT hi hu, bS, fb_ct_succ]
    cases bt (ab (X 4) (X 5) i) u
    · rw [isF, if_pos rfl, bS, nI_1]
      rfl
    · rw [if_pos rfl, if_neg n10, bS, bS, nI_1, nI_1]
      rfl
/-- the first of the highest -/
def low (m : Int32) (c : Nat → Nat) : Nat → Option Nat
  | 0 => none
  | i + 1 => if bt m i = true then (match low m c i with | none => some i | some j => if c i ≤ c j then some j else some i) else low m c i
def oI : Option Nat → Int32
  | none => -1
  | some j => nI j
def oC (c : Nat → Nat) : Option Nat → Int32
  | none => -1
  | some j => nI (c j)
theorem low_lt (m : Int32) (c : Nat → Nat) : ∀ (i j : Nat), low m c i = some j → j < i := by
  intro i
  induction i with
  | zero => intro j h; cases h
  | succ i ih =>
    intro j h
    unfold low at h
    split at h
    · split at h
      · cases h; omega
      · rename_i j' hj
        have := ih j' hj
        split at h <;> (cases h; omega)
    · have := ih j h
      omega
theorem lowestOf_n {X : St} {T : Nat} (h14 : X 14 0 = nI T) (h : TT (X 4) (X 5) T) (hT : T ≤ 16) (m : Int32) : fX1_lowestOf X m = some (oI (low m (fun i => cnt (ab (X 4) (X 5) i)) T)) := by
  unfold fX1_lowestOf
  have hc : ∀ i, cnt (ab (X 4) (X 5) i) ≤ 32 := fun i => cnt_le _
  refine loop100 (f := fun n (p : Int32 × Int32) i => fX1_lowestOf_7 X m n p.1 p.2 i) (st := fun i => (oI (low m (fun i => cnt (ab (X 4) (X 5) i)) i), oC (fun i => cnt (ab (X 4) (X 5) i)) (low m (fun i => cnt (ab (X 4) (X 5) i)) i))) (T := T) (by omega) ?_ ?_
  · intro n
    show fX1_lowestOf_7 X m (n + 1) _ _ _ = _
    rw [fX1_lowestOf_7, h14, if_pos gT]
  · intro n i hi
    show fX1_lowestOf_7 X m (n + 1) _ _ _ = fX1_lowestOf_7 X m n _ _ _
    rw [fX1_lowestOf_7, h14, if_neg (gL hi (by omega)), isIn_n (by omega), bS, low]
    cases hb : bt m i
    · rw [isF, if_pos rfl, if_neg (by decide), bS, nI_1]
    · rw [if_pos rfl, if_neg n10, if_pos rfl, countAbove_n h hT hi, bS]
      cases low m (fun i => cnt (ab (X 4) (X 5) i)) i with
      | none =>
        have hn : ¬ nI (cnt (ab (X 4) (X 5) i)) ≤ -1 := by
          rw [Int32.le_iff_toInt_le, nI_toInt (by have := hc i; omega)]
          have : (-1 : Int32).toInt = -1 := by decide
          omega
        show (if nI (cnt (ab (X 4) (X 5) i)) ≤ -1 then _ else _) = _
        rw [if_neg hn, bS, bS, nI_1]
        rfl
      | some j =>
        show (if nI (cnt (ab (X 4) (X 5) i)) ≤ nI (cnt (ab (X 4) (X 5) j)) then _ else _) = _
        by_cases e : cnt (ab (X 4) (X 5) i) ≤ cnt (ab (X 4) (X 5) j)
        · rw [if_pos (nI_le e (by have := hc j; omega)), bS, nI_1]
          show _ = fX1_lowestOf_7 X m n (oI (if _ then _ else _)) (oC _ (if _ then _ else _)) _
          rw [if_pos e]
        · rw [if_neg (nI_ge (by omega) (by have := hc i; omega)), bS, bS, nI_1]
          show _ = fX1_lowestOf_7 X m n (oI (if _ then _ else _)) (oC _ (if _ then _ else _)) _
          rw [if_neg e]
          rfl
theorem low_congr {m : Int32} {c c' : Nat → Nat} : ∀ (n : Nat), (∀ i, i < n → c i = c' i) → low m c n = low m c' n := by
  intro n
  induction n with
  | zero => intro _; rfl
  | succ n ih =>
    intro h
    unfold low
    rw [ih (fun i hi => h i (by omega))]
    split
    · cases hl : low m c' n with
      | none => rfl
      | some j =>
        show (if c n ≤ c j then _ else _) = (if c' n ≤ c' j then _ else _)
        rw [h n (by omega), h j (by have := low_lt _ _ _ _ hl; omega)]
    · rfl
