/-! COVERS -/
theorem uuu (S : St) (k j : Nat) (a b : Int32) : up (up S k j a) k j b = up S k j b := by
  funext x
  by_cases e : x = k
  · rw [e, up_s, up_s, up_s]
    funext i
    by_cases e2 : i = j
    · rw [e2, upd_s, upd_s]
    · rw [upd_n e2, upd_n e2, upd_n e2]
  · rw [up_n e, up_n e, up_n e]
theorem uid (S : St) (k j : Nat) : up S k j (S k j) = S := by
  funext x
  by_cases e : x = k
  · rw [e, up_s]
    funext i
    by_cases e2 : i = j
    · rw [e2, upd_s]
    · rw [upd_n e2]
  · rw [up_n e]
/-- the first smallest: tags 16-r .. 15, at most s of them, for the dreams o -/
def cx (v : Nat → Int32) : Nat → Nat → Int32 → Option Int32
  | 0, _, o => if o = 0 then some 0 else none
  | _ + 1, 0, o => if o = 0 then some 0 else none
  | r + 1, s + 1, o => if o = 0 then some 0 else if o &&& v (15 - r) = 0 then cx v r (s + 1) o else
      match cx v r s (o &&& (v (15 - r) ^^^ (-1))) with
      | some c => some (c ||| sb (15 - r))
      | none => cx v r (s + 1) o
theorem cx_0 (v : Nat → Int32) (r s : Nat) : cx v r s 0 = some 0 := by
  cases r with
  | zero => exact if_pos rfl
  | succ r =>
    cases s with
    | zero => exact if_pos rfl
    | succ s => exact if_pos rfl
theorem cx_z (v : Nat → Int32) (r : Nat) {o : Int32} (h : o ≠ 0) : cx v r 0 o = none := by
  cases r with
  | zero => exact if_neg h
  | succ r => exact if_neg h
theorem cx_e (v : Nat → Int32) (s : Nat) {o : Int32} (h : o ≠ 0) : cx v 0 s o = none := if_neg h
theorem cx_s1 (v : Nat → Int32) (r s : Nat) {o : Int32} (h : o ≠ 0) (h2 : o &&& v (15 - r) = 0) : cx v (r + 1) (s + 1) o = cx v r (s + 1) o := (if_neg h).trans (if_pos h2)
theorem cx_s2 (v : Nat → Int32) (r s : Nat) {o : Int32} (h : o ≠ 0) (h2 : ¬ o &&& v (15 - r) = 0) : cx v (r + 1) (s + 1) o = (match cx v r s (o &&& (v (15 - r) ^^^ (-1))) with
      | some c => some (c ||| sb (15 - r))
      | none => cx v r (s + 1) o) := (if_neg h).trans (if_neg h2)
theorem b_an {o x : Int32} {d : Nat} : bt (o &&& (x ^^^ (-1))) d = (bt o d && !bt x d) := by
  rw [b_and]
  rcases Nat.lt_or_ge d 32 with h | h
  · rw [bt_not _ h]
  · rw [b_big h]
    rfl
theorem b0x {i : Nat} {P : Prop} (h : bt 0 i = true) : P := by rw [b_0] at h; cases h
theorem cx_sound {v : Nat → Int32} : ∀ (r s : Nat) (o c : Int32), r ≤ 16 → cx v r s o = some c → (∀ i, bt c i = true → 16 - r ≤ i ∧ i < 16 ∧ v i ≠ 0) ∧ cnt c ≤ s ∧ ∀ d, bt o d = true → ∃ i, bt c i = true ∧ bt (v i) d = true := by
  intro r
  induction r with
  | zero =>
    intro s o c hr h
    by_cases h0 : o = 0
    · subst h0
      rw [cx_0] at h
      cases h
      exact ⟨fun i hi => b0x hi, by rw [cnt_0]; exact Nat.zero_le _, fun d hd => b0x hd⟩
    · rw [cx_e v s h0] at h
      cases h
  | succ r ih =>
    intro s o c hr h
    by_cases h0 : o = 0
    · subst h0
      rw [cx_0] at h
      cases h
      exact ⟨fun i hi => b0x hi, by rw [cnt_0]; exact Nat.zero_le _, fun d hd => b0x hd⟩
    · cases s with
      | zero =>
        rw [cx_z v (r + 1) h0] at h
        cases h
      | succ s =>
        have weak : ∀ c', cx v r (s + 1) o = some c' → (∀ i, bt c' i = true → 16 - (r + 1) ≤ i ∧ i < 16 ∧ v i ≠ 0) ∧ cnt c' ≤ s + 1 ∧ ∀ d, bt o d = true → ∃ i, bt c' i = true ∧ bt (v i) d = true := by
          intro c' hc
          obtain ⟨q1, q2, q3⟩ := ih (s + 1) o c' (by omega) hc
          exact ⟨fun i hi => ⟨by have := (q1 i hi).1; omega, (q1 i hi).2⟩, q2, q3⟩
        by_cases h2 : o &&& v (15 - r) = 0
        · rw [cx_s1 v r s h0 h2] at h
          exact weak c h
        · rw [cx_s2 v r s h0 h2] at h
          cases hc : cx v r s (o &&& (v (15 - r) ^^^ (-1))) with
          | none =>
            rw [hc] at h
            exact weak c h
          | some c' =>
            rw [hc] at h
            have h : some (c' ||| sb (15 - r)) = some c := h
            cases h
            obtain ⟨q1, q2, q3⟩ := ih s _ c' (by omega) hc
            have hv : v (15 - r) ≠ 0 := fun q => h2 (by rw [q]; exact Int32.and_zero)
            refine ⟨fun i hi => ?_, ?_, fun d hd => ?_⟩
            · rw [b_or, bt_sb (by omega)] at hi
              rcases (Bool.or_eq_true _ _).mp hi with hi | hi
              · have := q1 i hi
                exact ⟨by omega, this.2⟩
              · have : i = 15 - r := of_decide_eq_true hi
                subst this
                exact ⟨by omega, by omega, hv⟩
            · rw [cnt_or (fun i hi => ?_), cnt_sb (by omega)]
              · omega
              · obtain ⟨k1, k2⟩ := hi
                rw [bt_sb (by omega)] at k2
                have : i = 15 - r := of_decide_eq_true k2
                have := (q1 i k1).1
                omega
            · cases hb : bt (v (15 - r)) d
              · obtain ⟨i, k1, k2⟩ := q3 d (by rw [b_an, hd, hb]; rfl)
                exact ⟨i, by rw [b_or, k1]; rfl, k2⟩
              · exact ⟨15 - r, by rw [b_or, bt_sb (by omega), decide_eq_true rfl, Bool.or_true], hb⟩
theorem cx_comp {v : Nat → Int32} : ∀ (r s : Nat) (o : Int32), r ≤ 16 → r ≤ s → (∀ d, bt o d = true → ∃ i, 16 - r ≤ i ∧ i < 16 ∧ bt (v i) d = true) → ∃ c, cx v r s o = some c := by
  intro r
  induction r with
  | zero =>
    intro s o hr hs h
    by_cases h0 : o = 0
    · subst h0
      exact ⟨0, cx_0 _ _ _⟩
    · obtain ⟨d, hd⟩ := bt_ne0.mp h0
      obtain ⟨i, h1, h2, -⟩ := h d hd
      omega
  | succ r ih =>
    intro s o hr hs h
    by_cases h0 : o = 0
    · subst h0
      exact ⟨0, cx_0 _ _ _⟩
    · obtain ⟨s, rfl⟩ : ∃ k, s = k + 1 := ⟨s - 1, by omega⟩
      by_cases h2 : o &&& v (15 - r) = 0
      · rw [cx_s1 v r s h0 h2]
        refine ih (s + 1) o (by omega) (by omega) (fun d hd => ?_)
        obtain ⟨i, k1, k2, k3⟩ := h d hd
        refine ⟨i, ?_, k2, k3⟩
        rcases Nat.lt_or_ge i (16 - r) with q | q
        · have : i = 15 - r := by omega
          subst this
          have hz : bt (o &&& v (15 - r)) d = false := by rw [h2, b_0]
          rw [b_and, hd, k3] at hz
          cases hz
        · exact q
      · rw [cx_s2 v r s h0 h2]
        obtain ⟨c, hc⟩ := ih s (o &&& (v (15 - r) ^^^ (-1))) (by omega) (by omega) (fun d hd => by
          rw [b_an] at hd
          obtain ⟨d1, d2⟩ := (Bool.and_eq_true _ _).mp hd
          obtain ⟨i, k1, k2, k3⟩ := h d d1
          refine ⟨i, ?_, k2, k3⟩
          rcases Nat.lt_or_ge i (16 - r) with q | q
          · have : i = 15 - r := by omega
            subst this
            rw [k3] at d2
            cases d2
          · exact q)
        rw [hc]
        exact ⟨_, rfl⟩
theorem cx_T {v : Nat → Int32} {T : Nat} (hv : ∀ i, T ≤ i → v i = 0) {r s : Nat} {o : Int32} (hr : r ≤ 16) (hT : T ≤ 16 - r) (h0 : o ≠ 0) : cx v r s o = none := by
  cases hc : cx v r s o with
  | none => rfl
  | some c =>
    obtain ⟨q1, q2, q3⟩ := cx_sound r s o c hr hc
    obtain ⟨d, hd⟩ := bt_ne0.mp h0
    obtain ⟨i, k1, -⟩ := q3 d hd
    have := q1 i k1
    exact absurd (hv i (by omega)) this.2.2
def cxI : Option Int32 → Int32
  | none => -1
  | some c => c
theorem n1_16 {c : Int32} (h : ∀ i, bt c i = true → i < 16) : c ≠ -1 := fun e => by
  have := h 31 (by rw [e]; exact b_m1 31 (by omega))
  omega
/-- the class's walk -/
theorem cf_n {S : St} {v : Nat → Int32} {m : Int32} (hw : ∀ t, t < 16 → S 10 t = v t &&& m) (hc : ∀ t, t < 16 → ∀ i, t ≤ i → i < 16 → ∀ d, bt (S 10 i) d = true → bt (S 11 t) d = true) :
    ∀ (r s n : Nat) (o : Int32), r ≤ 16 → r < n → s ≤ 16 → (∀ d, bt o d = true → bt m d = true) → fX0_coverFrom n S (nI (16 - r)) (nI s) o = some (cxI (cx v r s o)) := by
  intro r
  induction r with
  | zero =>
    intro s n o hr hn hs ho
    obtain ⟨n, rfl⟩ : ∃ k, n = k + 1 := ⟨n - 1, by omega⟩
    rw [fX0_coverFrom]
    by_cases h0 : o = 0
    · rw [if_pos h0, h0, cx_0]
      rfl
    · rw [if_neg h0, cx_e v s h0]
      by_cases h1 : nI s ≤ 0
      · rw [if_pos h1]
        rfl
      · rw [if_neg h1, if_neg (nI_pos (by omega)), if_pos (show (16 : Int32) ≤ nI (16 - 0) from Int32.le_refl _)]
        rfl
  | succ r ih =>
    intro s n o hr hn hs ho
    obtain ⟨n, rfl⟩ : ∃ k, n = k + 1 := ⟨n - 1, by omega⟩
    rw [fX0_coverFrom]
    by_cases h0 : o = 0
    · rw [if_pos h0, h0, cx_0]
      rfl
    · rw [if_neg h0]
      cases s with
      | zero =>
        rw [if_pos (show nI 0 ≤ 0 from Int32.le_refl _), cx_z v (r + 1) h0]
        rfl
      | succ s =>
        rw [if_neg (nI_nle (by omega) (by omega)), if_neg (nI_pos (by omega)), show 16 - (r + 1) = 15 - r by omega, if_neg (show ¬ (16 : Int32) ≤ nI (15 - r) from nI_ge (b := 16) (by omega) (by omega)), ld_n (by omega) (by omega), bS]
        have hr1 : nI (15 - r) + 1 = nI (16 - r) := by rw [nI_1, show 15 - r + 1 = 16 - r by omega]
        by_cases hp : o &&& (S 11 (15 - r) ^^^ (-1)) = 0
        · have e1 : o &&& S 10 (15 - r) = o &&& v (15 - r) := bext fun d => by
            rw [hw _ (by omega), b_and, b_and, b_and]
            cases hb : bt o d
            · rfl
            · rw [ho d hb, Bool.and_true]
          have e2 : o &&& (S 10 (15 - r) ^^^ (-1)) = o &&& (v (15 - r) ^^^ (-1)) := bext fun d => by
            rw [b_an, b_an, hw _ (by omega), b_and]
            cases hb : bt o d
            · rfl
            · rw [ho d hb, Bool.and_true]
          have i1 := ih (s + 1) n o (by omega) (by omega) hs ho
          have i2 := ih s n (o &&& (v (15 - r) ^^^ (-1))) (by omega) (by omega) (by omega) (fun d hd => by
            rw [b_an] at hd
            exact ho d ((Bool.and_eq_true _ _).mp hd).1)
          rw [if_pos hp, ld_n (by omega) (by omega), bS, e1]
          unfold fX0_coverFrom_81
          rw [hr1, i1, bS]
          by_cases h2 : o &&& v (15 - r) = 0
          · rw [if_pos h2, cx_s1 v r s h0 h2]
          · rw [if_neg h2, bS, bS, e2, nI_pred, i2, bS, cx_s2 v r s h0 h2]
            cases hcx : cx v r s (o &&& (v (15 - r) ^^^ (-1))) with
            | none =>
              show (if (-1 : Int32) = -1 then _ else _) = _
              rw [if_pos rfl]
            | some c =>
              have hb := (cx_sound r s _ c (by omega) hcx).1
              show (if c = -1 then _ else _) = _
              rw [if_neg (n1_16 (fun i hi => (hb i hi).2.1))]
              rfl
        · rw [if_neg hp]
          cases hcx : cx v (r + 1) (s + 1) o with
          | none => rfl
          | some c =>
            obtain ⟨q1, q2, q3⟩ := cx_sound (r + 1) (s + 1) o c hr hcx
            refine absurd (bext fun d => ?_) hp
            rw [b_an, b_0]
            cases hb : bt o d
            · rfl
            · obtain ⟨i, k1, k2⟩ := q3 d hb
              have := q1 i k1
              rw [hc (15 - r) (by omega) i (by omega) (by omega) d (by rw [hw i (by omega), b_and, k2, ho d hb]; rfl)]
              rfl
/-- dreams that share no tag -/
def apt (h : Nat → Int32) (o : Int32) : Nat → Int32 × Nat
  | 0 => (0, 0)
  | i + 1 => if bt o i = true then (if h i &&& (apt h o i).1 = 0 then ((apt h o i).1 ||| h i, (apt h o i).2 + 1) else apt h o i) else apt h o i
theorem apt_le {h : Nat → Int32} {o c : Int32} {N : Nat} (hc : ∀ d, d < N → bt o d = true → ∃ i, bt c i = true ∧ bt (h d) i = true) : ∀ n, n ≤ N → (apt h o n).2 ≤ cnt (c &&& (apt h o n).1) := by
  intro n
  induction n with
  | zero => intro _; exact Nat.zero_le _
  | succ n ih =>
    intro hn
    have ih := ih (by omega)
    unfold apt
    split
    · rename_i hb
      split
      · rename_i hz
        have e : c &&& ((apt h o n).1 ||| h n) = (c &&& (apt h o n).1) ||| (c &&& h n) := bext fun i => by
          simp only [b_and, b_or]
          cases bt c i <;> rfl
        show (apt h o n).2 + 1 ≤ cnt (c &&& ((apt h o n).1 ||| h n))
        rw [e, cnt_or (fun i hi => by
          obtain ⟨h1, h2⟩ := hi
          rw [b_and] at h1 h2
          have hz2 : bt (h n &&& (apt h o n).1) i = false := by rw [hz, b_0]
          rw [b_and, ((Bool.and_eq_true _ _).mp h1).2, ((Bool.and_eq_true _ _).mp h2).2] at hz2
          cases hz2)]
        obtain ⟨i, k1, k2⟩ := hc n (by omega) hb
        have := cnt_pos (x := c &&& h n) (bt_ne0.mpr ⟨i, by rw [b_and, k1, k2]; rfl⟩)
        omega
      · exact ih
    · exact ih
theorem apt_0 {h : Nat → Int32} {o : Int32} : ∀ n, (apt h o n).2 = 0 → (apt h o n).1 = 0 ∧ ∀ d, d < n → bt o d = false := by
  intro n
  induction n with
  | zero => intro _; exact ⟨rfl, fun d hd => by omega⟩
  | succ n ih =>
    intro hz
    unfold apt at hz ⊢
    by_cases hb : bt o n = true
    · rw [if_pos hb] at hz ⊢
      by_cases e : h n &&& (apt h o n).1 = 0
      · rw [if_pos e] at hz
        exact absurd hz (by show ¬ (apt h o n).2 + 1 = 0; omega)
      · rw [if_neg e] at hz ⊢
        have := (ih hz).1
        rw [this, Int32.and_zero] at e
        exact absurd rfl e
    · rw [if_neg hb] at hz ⊢
      obtain ⟨q1, q2⟩ := ih hz
      refine ⟨q1, fun d hd => ?_⟩
      by_cases e : d = n
      · subst e
        cases hq : bt o d
        · rfl
        · exact absurd hq hb
      · exact q2 d (by omega)
def cxM (S : St) : Option Int32 → Int32 × St
  | none => (0, S)
  | some c => (1, up S 15 0 (S 15 0 ||| c))
section COV
variable {T N : Nat} {h : Nat → Int32}
end COV

