theorem canHang_n {X : St} {T : Nat} (h : TT (X 4) (X 5) T) (hT : T ≤ 16) {t p : Nat} (ht : t < T) (hp : p < T) : fX1_canHang X (nI t) (nI p) = some (if t = p then 0 else if bt (ab (X 4) (X 5) p) t = true then 0 else 1) := by
  unfold fX1_canHang
  by_cases e : t = p
  · rw [if_pos e, e, if_pos rfl]
  · rw [if_neg e, if_neg (fun q => e ((nI_eq (by omega) (by omega)).mp q)), standsBelow_n h hT hp (by omega), bS]
    cases bt (ab (X 4) (X 5) p) t <;> rfl
theorem tt_put {X : St} {T N K t p : Nat} (hI : XI X T N K) (ht : t < T) (hp : p < T) (hb : bt (X 5 p) t = false) : TT (upd (X 4) t (nI p)) (nline (X 4) (X 5) t (X 5 p)) T :=
  tt_move hI.2.2.2.2.2.2.1 hI.1 ht (Or.inr ⟨p, hp, rfl, rfl, hb⟩)
theorem tt_free {X : St} {T N K t : Nat} (hI : XI X T N K) (ht : t < T) : TT (upd (X 4) t (-1)) (nline (X 4) (X 5) t 0) T :=
  tt_move hI.2.2.2.2.2.2.1 hI.1 ht (Or.inl ⟨rfl, rfl⟩)
theorem pr_i {α β γ : Type} (a : α) (b : β) (f : α → β → γ) : pr (a, b) f = f a b := rfl
theorem lnsf_s {L : Nat → Int32} {o : Int32} {T : Nat} (h : bt o T = false) : lnsf L o (T + 1) = lnsf L o T := by
  show (if bt o T = true then _ else _) = _
  rw [h]
  rfl
