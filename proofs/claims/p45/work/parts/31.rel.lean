/-! THE STATE IN PLAIN WORDS, and what holds of class and model together -/
def sb (t : Nat) : Int32 := (1 : Int32) <<< (nI t &&& 31)
def allN (n : Nat) : Int32 := ((1 : Int32) <<< (nI n &&& 31)) - 1
def lnsf (L : Nat → Int32) (o : Int32) : Nat → Int32
  | 0 => 0
  | t + 1 => if bt o t = true then lnsf L o t ||| L t else lnsf L o t
def dhf (h : Nat → Int32) (t : Nat) : Nat → Int32
  | 0 => 0
  | d + 1 => if bt (h d) t = true then dhf h t d ||| sb d else dhf h t d
def mstep (kd a b : Int32) (w m : Nat → Int32) (al : Int32) : Int32 :=
  if kd = 0 then w a.toNatClampNeg else if kd = 1 then m a.toNatClampNeg &&& m b.toNatClampNeg else if kd = 2 then m a.toNatClampNeg ||| m b.toNatClampNeg else al &&& (m a.toNatClampNeg ^^^ (-1))
/-- parents and lines -/
def TT (P L : Nat → Int32) (T : Nat) : Prop :=
  (∀ t, t < T → P t = -1 ∨ ∃ p, p < T ∧ P t = nI p) ∧
  (∀ t, t < T → L t = sb t ||| (if P t = -1 then 0 else L (P t).toNatClampNeg)) ∧
  (∀ t, t < T → P t ≠ -1 → bt (L (P t).toNatClampNeg) t = false) ∧
  (∀ t, t < T → ∀ i, bt (L t) i = true → i < T)
def XT (X : St) (T : Nat) : Prop := TT (X 4) (X 5) T
/-- dreams -/
def XD (X : St) (T N : Nat) : Prop :=
  (∀ d, d < N → X 0 d ≠ 0) ∧ (∀ d, d < N → ∀ i, bt (X 0 d) i = true → i < T) ∧ (∀ d, d < N → ∃ v, v ≤ 9 ∧ X 2 d = nI v) ∧
  (∀ d, d < N → X 1 d = lnsf (X 5) (X 0 d) T)
/-- the shape of the terms -/
def XK0 (X : St) (T K : Nat) : Prop :=
  ∀ k, k < K → (X 6 k = 0 ∧ ∃ t, t < T ∧ X 7 k = nI t) ∨ ((X 6 k = 1 ∨ X 6 k = 2) ∧ (∃ a, a < k ∧ X 7 k = nI a) ∧ ∃ b, b < k ∧ X 8 k = nI b) ∨ (X 6 k = 3 ∧ ∃ a, a < k ∧ X 7 k = nI a)
/-- what they match -/
def XM (X : St) (N K : Nat) : Prop :=
  ∀ k, k < K → X 9 k = mstep (X 6 k) (X 7 k) (X 8 k) (fun t => dhf (X 1) t N) (X 9) (allN N)
def XI (X : St) (T N K : Nat) : Prop := T ≤ 16 ∧ N ≤ 24 ∧ K ≤ 20 ∧ X 14 0 = nI T ∧ X 12 0 = nI N ∧ X 15 0 = nI K ∧ XT X T ∧ XD X T N ∧ XK0 X T K ∧ XM X N K
