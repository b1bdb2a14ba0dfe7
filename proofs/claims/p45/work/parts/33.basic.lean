/-! PLAIN FACTS: rows, loops, bits -/
theorem up_s (S : St) (k j : Nat) (v : Int32) : up S k j v k = upd (S k) j v := by unfold up; rw [if_pos rfl]
theorem up_n {S : St} {k j a : Nat} {v : Int32} (h : a ≠ k) : up S k j v a = S a := by unfold up; rw [if_neg h]
theorem up_ss (S : St) (k j : Nat) (v : Int32) : up S k j v k j = v := by rw [up_s]; unfold upd; rw [if_pos rfl]
theorem up_sn {S : St} {k j i : Nat} {v : Int32} (h : i ≠ j) : up S k j v k i = S k i := by rw [up_s]; unfold upd; rw [if_neg h]
theorem ld_n {S : St} {k n i : Nat} (h : i < n) (hn : n ≤ 100) : ld S k n (nI i) = some (S k i) := by
  unfold ld
  rw [if_neg (nI_in h (by omega)), nI_clamp (by omega)]
theorem sto_n {S : St} {k n i : Nat} {v : Int32} (h : i < n) (hn : n ≤ 100) : sto S k n (nI i) v = some (up S k i v) := by
  unfold sto
  rw [if_neg (nI_in h (by omega)), nI_clamp (by omega)]
theorem ld_0 {S : St} {k n : Nat} (h : 0 < n) (hn : n ≤ 100) : ld S k n 0 = some (S k 0) := ld_n (i := 0) h hn
theorem bS {α β : Type} (a : α) (f : α → Option β) : Option.bind (some a) f = f a := rfl
/-- a loop that counts up to T, with its state at each number -/
theorem loopup {α β : Type} {f : Nat → α → Int32 → Option β} {st : Nat → α} {T : Nat} {r : Option β} (hexit : ∀ n, f (n + 1) (st T) (nI T) = r) (hstep : ∀ n i, i < T → f (n + 1) (st i) (nI i) = f n (st (i + 1)) (nI (i + 1))) :
    ∀ (d i n : Nat), i + d = T → d < n → f n (st i) (nI i) = r := by
  intro d
  induction d with
  | zero =>
    intro i n h1 h2
    obtain ⟨n, rfl⟩ : ∃ k, n = k + 1 := ⟨n - 1, by omega⟩
    have : i = T := by omega
    subst this
    exact hexit n
  | succ d ih =>
    intro i n h1 h2
    obtain ⟨n, rfl⟩ : ∃ k, n = k + 1 := ⟨n - 1, by omega⟩
    rw [hstep n i (by omega)]
    exact ih (i + 1) n (by omega) (by omega)
theorem loop100 {α β : Type} {f : Nat → α → Int32 → Option β} {st : Nat → α} {T : Nat} {r : Option β} (hT : T < 100) (hexit : ∀ n, f (n + 1) (st T) (nI T) = r) (hstep : ∀ n i, i < T → f (n + 1) (st i) (nI i) = f n (st (i + 1)) (nI (i + 1))) :
    f 100 (st 0) 0 = r := loopup hexit hstep T 0 100 (by omega) (by omega)
theorem gL {T i : Nat} (h : i < T) (hT : T < 100) : ¬ nI T ≤ nI i := nI_ge h (by omega)
theorem gT {T : Nat} : nI T ≤ nI T := Int32.le_refl _
/-! bits -/
theorem bt_1 (i : Nat) : bt 1 i = decide (i = 0) := by
  rcases Nat.lt_or_ge i 32 with h | h
  · exact (by decide +kernel : ∀ i, i < 32 → bt 1 i = decide (i = 0)) i h
  · rw [b_big h, decide_eq_false (by omega)]
theorem bt_sb {t : Nat} (ht : t < 32) (i : Nat) : bt (sb t) i = decide (i = t) := by
  rcases Nat.lt_or_ge i 32 with h | h
  · unfold sb
    rw [b_shl t ht 1 h, bt_1]
    by_cases h1 : i = t
    · subst h1
      simp
    · rw [decide_eq_false h1]
      by_cases h2 : t ≤ i
      · rw [decide_eq_true h2, decide_eq_false (by omega)]; rfl
      · rw [decide_eq_false h2]; rfl
  · rw [b_big h, decide_eq_false (by omega)]
theorem bt_not (x : Int32) {i : Nat} (hi : i < 32) : bt (x ^^^ (-1)) i = !bt x i := by
  rw [b_xor, b_m1 i hi, Bool.xor_true]
theorem bt_allN {n : Nat} (hn : n < 32) (i : Nat) : bt (allN n) i = decide (i < n) := by
  rcases Nat.lt_or_ge i 32 with h | h
  · exact (by decide +kernel : ∀ n, n < 32 → ∀ i, i < 32 → bt (allN n) i = decide (i < n)) n hn i h
  · rw [b_big h, decide_eq_false (by omega)]
theorem bt_lt {x : Int32} {i : Nat} (h : bt x i = true) : i < 32 := by
  rcases Nat.lt_or_ge i 32 with h1 | h1
  · exact h1
  · rw [b_big h1] at h
    cases h
theorem bt_ne0 {x : Int32} : x ≠ 0 ↔ ∃ i, bt x i = true := by
  refine ⟨fun h => Classical.byContradiction fun hn => h (b_ext fun i _ => ?_), fun ⟨i, hi⟩ h => ?_⟩
  · rw [b_0]
    cases hb : bt x i with
    | false => rfl
    | true => exact absurd ⟨i, hb⟩ hn
  · rw [h, b_0] at hi
    cases hi
theorem bext {x y : Int32} (h : ∀ i, bt x i = bt y i) : x = y := b_ext (fun i _ => h i)
theorem sh1 {i : Nat} (hi : i < 32) (x : Int32) : ((x >>> (nI i &&& 31)) &&& 1) = if bt x i = true then 1 else 0 := by
  refine b_ext fun j hj => ?_
  rw [b_and, b_sshr i hi x hj, bt_1]
  by_cases h0 : j = 0
  · subst h0
    rw [Nat.add_zero, if_pos hi]
    cases hb : bt x i
    · simp [b_0]
    · simp [bt_1]
  · rw [decide_eq_false h0, Bool.and_false]
    cases hb : bt x i
    · simp [b_0]
    · simp [bt_1, h0]
theorem isIn_n {i : Nat} (hi : i < 32) (x : Int32) : fX3_isIn (nI i) x = some (if bt x i = true then 1 else 0) := by
  unfold fX3_isIn
  rw [sh1 hi]
  cases hb : bt x i <;> simp
theorem isB (b : Bool) : ((if b = true then (1 : Int32) else 0) = 0) ↔ b = false := by cases b <;> decide
theorem zgB (b : Bool) : zg (if b = true then (1 : Int32) else 0) = some (if b = true then 1 else 0) := by cases b <;> decide
/-- how many bits -/
def cnt (x : Int32) : Nat := fb_ct (bt x) 32
theorem cnt_le (x : Int32) : cnt x ≤ 32 := fb_ct_le _ _
theorem cnt_0 : cnt 0 = 0 := by
  unfold cnt
  rw [fb_ct_zero]
  intro k _
  exact b_0 k
theorem cnt_pos {x : Int32} (h : x ≠ 0) : 0 < cnt x := by
  obtain ⟨i, hi⟩ := bt_ne0.mp h
  exact fb_ct_pos.mpr ⟨i, bt_lt hi, hi⟩
theorem cnt_or {x y : Int32} (h : ∀ i, ¬ (bt x i = true ∧ bt y i = true)) : cnt (x ||| y) = cnt x + cnt y := by
  unfold cnt
  rw [← fb_ct_or (fun k _ => h k)]
  exact fb_ct_cong (fun k _ => b_or x y k)
theorem cnt_sb {t : Nat} (ht : t < 32) : cnt (sb t) = 1 := (by decide +kernel : ∀ t, t < 32 → cnt (sb t) = 1) t ht
theorem cnt_sub {x y : Int32} (h : ∀ i, bt x i = true → bt y i = true) : cnt x ≤ cnt y := fb_ct_sub (fun k _ => h k)
theorem cnt_bd {x : Int32} {T : Nat} (hT : T ≤ 32) (h : ∀ i, bt x i = true → i < T) : cnt x ≤ T := by
  have h1 : cnt x = fb_ct (bt x) T := by
    unfold cnt
    have h32 : fb_ct (bt x) 32 = fb_ct (bt x) (T + (32 - T)) := by rw [Nat.add_sub_cancel' hT]
    rw [h32, fb_ct_split]
    have : fb_ct (fun k => bt x (T + k)) (32 - T) = 0 := by
      rw [fb_ct_zero]
      intro k _
      cases hb : bt x (T + k)
      · rfl
      · exact absurd (h _ hb) (by omega)
    omega
  rw [h1]
  exact fb_ct_le _ _
theorem bt_tn (x : Int32) (i : Nat) : bt x i = x.toBitVec.toNat.testBit i := rfl
/-- the lowest bit goes by x &&& (x - 1) -/
theorem low_nat {n t : Nat} (h1 : n.testBit t = true) (h2 : ∀ i, i < t → n.testBit i = false) (i : Nat) : (n.testBit i && (n - 1).testBit i) = (n.testBit i && !decide (i = t)) := by
  have hz : n % 2 ^ t = 0 := Nat.eq_of_testBit_eq fun i => by
    rw [Nat.testBit_mod_two_pow, Nat.zero_testBit]
    by_cases hi : i < t
    · rw [h2 i hi, Bool.and_false]
    · simp [hi]
  obtain ⟨q, hq⟩ : ∃ q, n = 2 ^ t * q := ⟨n / 2 ^ t, by have := Nat.div_add_mod n (2 ^ t); omega⟩
  have hodd : q % 2 = 1 := by
    have h3 : (2 ^ t * q + 0).testBit t = q.testBit 0 := by
      rw [Nat.testBit_two_pow_mul_add q (Nat.two_pow_pos t)]
      simp
    rw [Nat.add_zero, ← hq, h1] at h3
    have h4 : q.testBit 0 = true := h3.symm
    rw [Nat.testBit_zero] at h4
    exact of_decide_eq_true h4
  obtain ⟨m, hm⟩ : ∃ m, q = 2 * m + 1 := ⟨q / 2, by omega⟩
  subst hm
  have hp : 0 < 2 ^ t := Nat.two_pow_pos t
  have hn1 : n - 1 = 2 ^ t * (2 * m) + (2 ^ t - 1) := by
    rw [hq, Nat.mul_succ]
    omega
  rcases Nat.lt_trichotomy i t with hi | hi | hi
  · rw [h2 i hi]; rfl
  · subst hi
    rw [hn1, Nat.testBit_two_pow_mul_add _ (by omega), if_neg (Nat.lt_irrefl _), Nat.sub_self, Nat.testBit_zero]
    simp
  · have hx : n.testBit i = (2 * m + 1).testBit (i - t) := by
      rw [hq, ← Nat.add_zero (2 ^ t * (2 * m + 1)), Nat.testBit_two_pow_mul_add _ hp, if_neg (by omega)]
    rw [hn1, Nat.testBit_two_pow_mul_add _ (by omega), if_neg (by omega), hx]
    obtain ⟨k, hk⟩ : ∃ k, i - t = k + 1 := ⟨i - t - 1, by omega⟩
    rw [hk, Nat.testBit_succ, Nat.testBit_succ, decide_eq_false (by omega : ¬ i = t), show (2 * m + 1) / 2 = m by omega, show 2 * m / 2 = m by omega]
    simp
theorem low_bit {x : Int32} (h : x ≠ 0) : ∃ t, t < 32 ∧ bt x t = true ∧ (∀ i, i < t → bt x i = false) ∧ ∀ i, bt (x &&& (x - 1)) i = (bt x i && !decide (i = t)) := by
  obtain ⟨i0, hi0⟩ := bt_ne0.mp h
  obtain ⟨t, ht, hmin⟩ := pk_least (fun k => bt x k = true) ⟨i0, hi0⟩
  have hmin' : ∀ i, i < t → bt x i = false := fun i hi => by
    cases hb : bt x i
    · rfl
    · exact absurd hb (hmin i hi)
  have hpos : 1 ≤ x.toBitVec.toNat := by
    rcases Nat.eq_zero_or_pos x.toBitVec.toNat with h0 | h0
    · rw [bt_tn, h0, Nat.zero_testBit] at ht
      cases ht
    · exact h0
  have hs : (x - 1).toBitVec.toNat = x.toBitVec.toNat - 1 := by
    rw [Int32.toBitVec_sub, BitVec.toNat_sub]
    show (2 ^ 32 - 1 + x.toBitVec.toNat) % 2 ^ 32 = _
    have := x.toBitVec.isLt
    omega
  refine ⟨t, bt_lt ht, ht, hmin', fun i => ?_⟩
  rw [b_and]
  show (x.toBitVec.toNat.testBit i && (x - 1).toBitVec.toNat.testBit i) = _
  rw [hs]
  exact low_nat ht hmin' i
/-! Integer.bitCount: eight digits of four bits -/
theorem and16 (a b c d : Nat) (hb : b < 16) (hd : d < 16) : (16 * a + b) &&& (16 * c + d) = 16 * (a &&& c) + (b &&& d) := by
  refine Nat.eq_of_testBit_eq fun j => ?_
  have hbd : b &&& d < 2 ^ 4 := Nat.lt_of_le_of_lt Nat.and_le_left hb
  rw [Nat.testBit_and, show 16 * a + b = 2 ^ 4 * a + b from rfl, show 16 * c + d = 2 ^ 4 * c + d from rfl, show 16 * (a &&& c) + (b &&& d) = 2 ^ 4 * (a &&& c) + (b &&& d) from rfl, Nat.testBit_two_pow_mul_add a hb, Nat.testBit_two_pow_mul_add c hd, Nat.testBit_two_pow_mul_add (a &&& c) hbd]
  split
  · rw [Nat.testBit_and]
  · rw [Nat.testBit_and]
def hn8 (a b c d e f g h : Nat) : Nat := 16 * (16 * (16 * (16 * (16 * (16 * (16 * h + g) + f) + e) + d) + c) + b) + a
theorem and_hn8 (a b c d e f g h a' b' c' d' e' f' g' h' : Nat) (ha : a < 16) (hb : b < 16) (hc : c < 16) (hd : d < 16) (he : e < 16) (hf : f < 16) (hg : g < 16) (ha' : a' < 16) (hb' : b' < 16) (hc' : c' < 16) (hd' : d' < 16) (he' : e' < 16) (hf' : f' < 16) (hg' : g' < 16) :
    hn8 a b c d e f g h &&& hn8 a' b' c' d' e' f' g' h' = hn8 (a &&& a') (b &&& b') (c &&& c') (d &&& d') (e &&& e') (f &&& f') (g &&& g') (h &&& h') := by
  unfold hn8
  rw [and16 _ _ _ _ ha ha', and16 _ _ _ _ hb hb', and16 _ _ _ _ hc hc', and16 _ _ _ _ hd hd', and16 _ _ _ _ he he', and16 _ _ _ _ hf hf', and16 _ _ _ _ hg hg']
def pc4 (h : Nat) : Nat := h % 2 + h / 2 % 2 + h / 4 % 2 + h / 8 % 2
theorem dg5 : ∀ h, h < 16 → ∀ e, e < 2 → (h / 2 + 8 * e) &&& 5 = (h / 2) &&& 5 := by decide +kernel
theorem dg3 : ∀ h, h < 16 → ∀ e, e < 4 → (h / 4 + 4 * e) &&& 3 = h / 4 := by decide +kernel
theorem dgu : ∀ h, h < 16 → (h / 2) &&& 5 ≤ h := by decide +kernel
theorem dgp : ∀ h, h < 16 → ((h - ((h / 2) &&& 5)) &&& 3) + (h - ((h / 2) &&& 5)) / 4 = pc4 h := by decide +kernel
theorem dgl : ∀ h, h < 16 → pc4 h ≤ 4 := by decide +kernel
theorem dgf : ∀ h, h < 16 → h &&& 15 = h := by decide +kernel
theorem sum4 (r0 r1 r2 r3 : Nat) (h0 : r0 ≤ 8) (h1 : r1 ≤ 8) (h2 : r2 ≤ 8) (h3 : r3 ≤ 8) :
    (hn8 r0 0 r1 0 r2 0 r3 0 + hn8 r0 0 r1 0 r2 0 r3 0 / 256 + (hn8 r0 0 r1 0 r2 0 r3 0 + hn8 r0 0 r1 0 r2 0 r3 0 / 256) / 65536) % 64 = r0 + r1 + r2 + r3 := by
  have e0 : hn8 r0 0 r1 0 r2 0 r3 0 = r0 + 256 * r1 + 65536 * r2 + 16777216 * r3 := by unfold hn8; omega
  have e1 : (r0 + 256 * r1 + 65536 * r2 + 16777216 * r3) / 256 = r1 + 256 * r2 + 65536 * r3 := by omega
  have e2 : r0 + 256 * r1 + 65536 * r2 + 16777216 * r3 + (r1 + 256 * r2 + 65536 * r3) = (r0 + r1) + 256 * (r1 + r2) + 65536 * (r2 + r3) + 16777216 * r3 := by omega
  have e3 : ((r0 + r1) + 256 * (r1 + r2) + 65536 * (r2 + r3) + 16777216 * r3) / 65536 = (r2 + r3) + 256 * r3 := by omega
  rw [e0, e1, e2, e3]
  omega
theorem swar (a b c d e f g h : Nat) (ha : a < 16) (hb : b < 16) (hc : c < 16) (hd : d < 16) (he : e < 16) (hf : f < 16) (hg : g < 16) (hh : h < 16) :
    ∃ n1 n2 n3, n1 = hn8 a b c d e f g h - ((hn8 a b c d e f g h / 2) &&& 1431655765) ∧ (hn8 a b c d e f g h / 2) &&& 1431655765 ≤ hn8 a b c d e f g h ∧ n1 < 2 ^ 32 ∧ n2 = (n1 &&& 858993459) + ((n1 / 4) &&& 858993459) ∧ n2 < 2 ^ 32 ∧ n3 = (n2 + n2 / 16) &&& 252645135 ∧ n2 + n2 / 16 < 2 ^ 32 ∧ n3 < 2 ^ 28 ∧
      (n3 + n3 / 256 + (n3 + n3 / 256) / 65536) % 64 = pc4 a + pc4 b + pc4 c + pc4 d + pc4 e + pc4 f + pc4 g + pc4 h := by
  have e1 : (hn8 a b c d e f g h / 2) &&& 1431655765 = hn8 ((a / 2) &&& 5) ((b / 2) &&& 5) ((c / 2) &&& 5) ((d / 2) &&& 5) ((e / 2) &&& 5) ((f / 2) &&& 5) ((g / 2) &&& 5) ((h / 2) &&& 5) := by
    have h1 : hn8 a b c d e f g h / 2 = hn8 (a / 2 + 8 * (b % 2)) (b / 2 + 8 * (c % 2)) (c / 2 + 8 * (d % 2)) (d / 2 + 8 * (e % 2)) (e / 2 + 8 * (f % 2)) (f / 2 + 8 * (g % 2)) (g / 2 + 8 * (h % 2)) (h / 2) := by
      unfold hn8
      omega
    rw [h1, show (1431655765 : Nat) = hn8 5 5 5 5 5 5 5 5 from rfl, and_hn8 _ _ _ _ _ _ _ _ _ _ _ _ _ _ _ _ (by omega) (by omega) (by omega) (by omega) (by omega) (by omega) (by omega) (by omega) (by omega) (by omega) (by omega) (by omega) (by omega) (by omega), dg5 a ha _ (by omega), dg5 b hb _ (by omega), dg5 c hc _ (by omega), dg5 d hd _ (by omega), dg5 e he _ (by omega), dg5 f hf _ (by omega), dg5 g hg _ (by omega)]
  have ua := dgu a ha
  have ub := dgu b hb
  have uc := dgu c hc
  have ud := dgu d hd
  have ue := dgu e he
  have uf := dgu f hf
  have ug := dgu g hg
  have uh := dgu h hh
  have pa := dgp a ha
  have pb := dgp b hb
  have pc := dgp c hc
  have pd := dgp d hd
  have pe := dgp e he
  have pf := dgp f hf
  have pg := dgp g hg
  have ph := dgp h hh
  have la := dgl a ha
  have lb := dgl b hb
  have lc := dgl c hc
  have ld := dgl d hd
  have le := dgl e he
  have lf := dgl f hf
  have lg := dgl g hg
  have lh := dgl h hh
  generalize pc4 a = xa at *
  generalize pc4 b = xb at *
  generalize pc4 c = xc at *
  generalize pc4 d = xd at *
  generalize pc4 e = xe at *
  generalize pc4 f = xf at *
  generalize pc4 g = xg at *
  generalize pc4 h = xh at *
  generalize (a / 2) &&& 5 = va at *
  generalize (b / 2) &&& 5 = vb at *
  generalize (c / 2) &&& 5 = vc at *
  generalize (d / 2) &&& 5 = vd at *
  generalize (e / 2) &&& 5 = ve at *
  generalize (f / 2) &&& 5 = vf at *
  generalize (g / 2) &&& 5 = vg at *
  generalize (h / 2) &&& 5 = vh at *
  have e2 : hn8 a b c d e f g h - hn8 va vb vc vd ve vf vg vh = hn8 (a - va) (b - vb) (c - vc) (d - vd) (e - ve) (f - vf) (g - vg) (h - vh) := by
    unfold hn8
    omega
  have e3 : hn8 va vb vc vd ve vf vg vh ≤ hn8 a b c d e f g h := by
    unfold hn8
    omega
  obtain ⟨a', ea⟩ : ∃ z, z = a - va := ⟨_, rfl⟩
  obtain ⟨b', eb⟩ : ∃ z, z = b - vb := ⟨_, rfl⟩
  obtain ⟨c', ec⟩ : ∃ z, z = c - vc := ⟨_, rfl⟩
  obtain ⟨d', ed⟩ : ∃ z, z = d - vd := ⟨_, rfl⟩
  obtain ⟨e', ee⟩ : ∃ z, z = e - ve := ⟨_, rfl⟩
  obtain ⟨f', ef⟩ : ∃ z, z = f - vf := ⟨_, rfl⟩
  obtain ⟨g', eg⟩ : ∃ z, z = g - vg := ⟨_, rfl⟩
  obtain ⟨h', eh⟩ : ∃ z, z = h - vh := ⟨_, rfl⟩
  rw [← ea, ← eb, ← ec, ← ed, ← ee, ← ef, ← eg, ← eh] at e2
  rw [← ea] at pa
  rw [← eb] at pb
  rw [← ec] at pc
  rw [← ed] at pd
  rw [← ee] at pe
  rw [← ef] at pf
  rw [← eg] at pg
  rw [← eh] at ph
  have e4 : hn8 a' b' c' d' e' f' g' h' &&& 858993459 = hn8 (a' &&& 3) (b' &&& 3) (c' &&& 3) (d' &&& 3) (e' &&& 3) (f' &&& 3) (g' &&& 3) (h' &&& 3) := by
    rw [show (858993459 : Nat) = hn8 3 3 3 3 3 3 3 3 from rfl, and_hn8 _ _ _ _ _ _ _ _ _ _ _ _ _ _ _ _ (by omega) (by omega) (by omega) (by omega) (by omega) (by omega) (by omega) (by omega) (by omega) (by omega) (by omega) (by omega) (by omega) (by omega)]
  have e5 : (hn8 a' b' c' d' e' f' g' h' / 4) &&& 858993459 = hn8 (a' / 4) (b' / 4) (c' / 4) (d' / 4) (e' / 4) (f' / 4) (g' / 4) (h' / 4) := by
    have h1 : hn8 a' b' c' d' e' f' g' h' / 4 = hn8 (a' / 4 + 4 * (b' % 4)) (b' / 4 + 4 * (c' % 4)) (c' / 4 + 4 * (d' % 4)) (d' / 4 + 4 * (e' % 4)) (e' / 4 + 4 * (f' % 4)) (f' / 4 + 4 * (g' % 4)) (g' / 4 + 4 * (h' % 4)) (h' / 4 + 4 * 0) := by
      unfold hn8
      omega
    rw [h1, show (858993459 : Nat) = hn8 3 3 3 3 3 3 3 3 from rfl, and_hn8 _ _ _ _ _ _ _ _ _ _ _ _ _ _ _ _ (by omega) (by omega) (by omega) (by omega) (by omega) (by omega) (by omega) (by omega) (by omega) (by omega) (by omega) (by omega) (by omega) (by omega), dg3 a' (by omega) _ (by omega), dg3 b' (by omega) _ (by omega), dg3 c' (by omega) _ (by omega), dg3 d' (by omega) _ (by omega), dg3 e' (by omega) _ (by omega), dg3 f' (by omega) _ (by omega), dg3 g' (by omega) _ (by omega), dg3 h' (by omega) _ (by omega)]
  have e6 : (hn8 a' b' c' d' e' f' g' h' &&& 858993459) + ((hn8 a' b' c' d' e' f' g' h' / 4) &&& 858993459) = hn8 xa xb xc xd xe xf xg xh := by
    rw [e4, e5]
    unfold hn8
    omega
  have e7 : hn8 xa xb xc xd xe xf xg xh + hn8 xa xb xc xd xe xf xg xh / 16 = hn8 (xa + xb) (xb + xc) (xc + xd) (xd + xe) (xe + xf) (xf + xg) (xg + xh) xh := by
    unfold hn8
    omega
  have e8 : hn8 (xa + xb) (xb + xc) (xc + xd) (xd + xe) (xe + xf) (xf + xg) (xg + xh) xh &&& 252645135 = hn8 (xa + xb) 0 (xc + xd) 0 (xe + xf) 0 (xg + xh) 0 := by
    rw [show (252645135 : Nat) = hn8 15 0 15 0 15 0 15 0 from rfl, and_hn8 _ _ _ _ _ _ _ _ _ _ _ _ _ _ _ _ (by omega) (by omega) (by omega) (by omega) (by omega) (by omega) (by omega) (by omega) (by omega) (by omega) (by omega) (by omega) (by omega) (by omega), dgf _ (by omega), dgf _ (by omega), dgf _ (by omega), dgf _ (by omega), Nat.and_zero, Nat.and_zero, Nat.and_zero, Nat.and_zero]
  refine ⟨hn8 a' b' c' d' e' f' g' h', hn8 xa xb xc xd xe xf xg xh, hn8 (xa + xb) 0 (xc + xd) 0 (xe + xf) 0 (xg + xh) 0, by rw [e1, e2], by rw [e1]; exact e3, ?_, e6.symm, ?_, by rw [e7, e8], ?_, ?_, ?_⟩
  · unfold hn8; omega
  · unfold hn8; omega
  · rw [e7]; unfold hn8; omega
  · unfold hn8; omega
  · rw [sum4 _ _ _ _ (by omega) (by omega) (by omega) (by omega)]; omega
theorem digits8 (n : Nat) (hn : n < 2 ^ 32) : ∃ a b c d e f g h, a < 16 ∧ b < 16 ∧ c < 16 ∧ d < 16 ∧ e < 16 ∧ f < 16 ∧ g < 16 ∧ h < 16 ∧ n = hn8 a b c d e f g h :=
  ⟨n % 16, n / 16 % 16, n / 256 % 16, n / 4096 % 16, n / 65536 % 16, n / 1048576 % 16, n / 16777216 % 16, n / 268435456, by omega, by omega, by omega, by omega, by omega, by omega, by omega, by omega, by unfold hn8; omega⟩
theorem tb16 (m d k : Nat) (hd : d < 16) : (16 * m + d).testBit (4 + k) = m.testBit k := by
  rw [show 16 * m + d = 2 ^ 4 * m + d from rfl, Nat.testBit_two_pow_mul_add m hd, if_neg (by omega), Nat.add_sub_cancel_left]
theorem ct4 : ∀ d, d < 16 → fb_ct (fun k => d.testBit k) 4 = pc4 d := by decide +kernel
theorem ct16 (m d : Nat) (hd : d < 16) (n : Nat) : fb_ct (fun k => (16 * m + d).testBit k) (4 + n) = pc4 d + fb_ct (fun k => m.testBit k) n := by
  rw [fb_ct_split, ← ct4 d hd]
  congr 1
  · refine fb_ct_cong (fun k hk => ?_)
    show (16 * m + d).testBit k = d.testBit k
    rw [show 16 * m + d = 2 ^ 4 * m + d from rfl, Nat.testBit_two_pow_mul_add m hd, if_pos hk]
  · exact fb_ct_cong (fun k _ => tb16 m d k hd)
theorem cnt_nI {n : Nat} (hn : n < 2 ^ 32) : cnt (nI n) = fb_ct (fun k => n.testBit k) 32 := by
  unfold cnt
  refine fb_ct_cong (fun k _ => ?_)
  rw [bt_tn, pk_tn hn]
theorem bitCount_n (x : Int32) : fJ6_bitCount_0f7a4 x = some (nI (cnt x)) := by
  obtain ⟨n, hn, rfl⟩ : ∃ n, n < 2 ^ 32 ∧ x = nI n := ⟨x.toBitVec.toNat, x.toBitVec.isLt, by
    apply Int32.toBitVec_inj.mp
    apply BitVec.eq_of_toNat_eq
    rw [pk_tn x.toBitVec.isLt]⟩
  obtain ⟨a, b, c, d, e, f, g, h, ha, hb, hc, hd, he, hf, hg, hh, rfl⟩ := digits8 n hn
  obtain ⟨n1, n2, n3, e1, l1, b1, e2, b2, e3, b3, b4, e4⟩ := swar a b c d e f g h ha hb hc hd he hf hg hh
  have hcnt : cnt (nI (hn8 a b c d e f g h)) = pc4 a + pc4 b + pc4 c + pc4 d + pc4 e + pc4 f + pc4 g + pc4 h := by
    rw [cnt_nI hn]
    unfold hn8
    rw [show (32 : Nat) = 4 + 28 from rfl, ct16 _ a ha, show (28 : Nat) = 4 + 24 from rfl, ct16 _ b hb, show (24 : Nat) = 4 + 20 from rfl, ct16 _ c hc, show (20 : Nat) = 4 + 16 from rfl, ct16 _ d hd, show (16 : Nat) = 4 + 12 from rfl]
    rw [ct16 _ e he, show (12 : Nat) = 4 + 8 from rfl, ct16 _ f hf, show (8 : Nat) = 4 + 4 from rfl, ct16 _ g hg, ct4 h hh]
    omega
  rw [hcnt]
  generalize hn8 a b c d e f g h = n at *
  unfold fJ6_bitCount_0f7a4
  rw [bS, bS, bS, bS, bS]
  have u1 : ((nI n).toUInt32 >>> (Int32.toUInt32 1 &&& Int32.toUInt32 31)).toInt32 = nI (n / 2) := pk_ushrN hn 1 1 (by decide)
  have s1 : nI n - (nI (n / 2) &&& 1431655765) = nI n1 := by
    rw [show (1431655765 : Int32) = nI 1431655765 from rfl, nx_and, pk_sub l1, ← e1]
  have u2 : ((nI n1).toUInt32 >>> (Int32.toUInt32 2 &&& Int32.toUInt32 31)).toInt32 = nI (n1 / 4) := pk_ushrN b1 2 2 (by decide)
  have s2 : (nI n1 &&& 858993459) + (nI (n1 / 4) &&& 858993459) = nI n2 := by
    rw [show (858993459 : Int32) = nI 858993459 from rfl, nx_and, nx_and, nI_add, ← e2]
  have u3 : ((nI n2).toUInt32 >>> (Int32.toUInt32 4 &&& Int32.toUInt32 31)).toInt32 = nI (n2 / 16) := pk_ushrN b2 4 4 (by decide)
  have s3 : (nI n2 + nI (n2 / 16)) &&& 252645135 = nI n3 := by
    rw [show (252645135 : Int32) = nI 252645135 from rfl, nI_add, nx_and, ← e3]
  have u4 : ((nI n3).toUInt32 >>> (Int32.toUInt32 8 &&& Int32.toUInt32 31)).toInt32 = nI (n3 / 256) := pk_ushrN (by omega) 8 8 (by decide)
  have u5 : ((nI (n3 + n3 / 256)).toUInt32 >>> (Int32.toUInt32 16 &&& Int32.toUInt32 31)).toInt32 = nI ((n3 + n3 / 256) / 65536) := pk_ushrN (by omega) 16 16 (by decide)
  rw [u1, s1, u2, s2, u3, s3, u4, nI_add, u5, nI_add, pk_andN (by omega) (m := 63) 6 (by decide)]
  rw [show (2 : Nat) ^ 6 = 64 from rfl, e4]

