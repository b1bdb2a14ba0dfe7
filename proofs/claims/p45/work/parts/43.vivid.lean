theorem xi_2 {X X' : St} {T N K : Nat} (h : XI X T N K) (e : ∀ a, a ≠ 2 → a ≠ 13 → X' a = X a) (hv : ∀ d, d < N → ∃ v, v ≤ 9 ∧ X' 2 d = nI v) : XI X' T N K := by
  unfold XI XT XD XK0 XM at h ⊢
  rw [e 0 (by decide) (by decide), e 1 (by decide) (by decide), e 4 (by decide) (by decide), e 5 (by decide) (by decide), e 6 (by decide) (by decide), e 7 (by decide) (by decide), e 8 (by decide) (by decide), e 9 (by decide) (by decide), e 12 (by decide) (by decide), e 14 (by decide) (by decide), e 15 (by decide) (by decide)]
  obtain ⟨h1, h2, h3, h4, h5, h6, h7, ⟨h8, h9, -, h11⟩, h12⟩ := h
  exact ⟨h1, h2, h3, h4, h5, h6, h7, ⟨h8, h9, hv, h11⟩, h12⟩
