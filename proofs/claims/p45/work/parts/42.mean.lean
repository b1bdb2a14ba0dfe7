/-! THE MEAN -/
def sm (c : Nat → Nat) : Nat → Nat
  | 0 => 0
  | i + 1 => sm c i + c i
theorem sm_le {c : Nat → Nat} : ∀ n, (∀ i, i < n → c i ≤ 9) → sm c n ≤ 9 * n := by
  intro n
  induction n with
  | zero => intro _; exact Nat.le_refl _
  | succ n ih =>
    intro h
    have := ih (fun i hi => h i (by omega))
    have := h n (by omega)
    unfold sm
    omega
def okd (s n : Nat) : Bool := (match dv (FP.i2d (nI s)) (FP.i2d (nI n)) with | some r => decide (FP.dcmp r r = some .eq) | none => false)
theorem dv_all : ∀ n, n < 25 → n = 0 ∨ ∀ s, s < 217 → okd s n = true := by decide +kernel

