theorem or_xor {x : Int32} {t : Nat} (ht : t < 32) (h : bt x t = false) : x ^^^ sb t = x ||| sb t := bext fun i => by
  rw [b_xor, b_or, bt_sb ht]
  by_cases e : i = t
  · subst e
    rw [h]
    simp
  · rw [decide_eq_false e]
    simp
theorem and_xor {x : Int32} {t : Nat} (ht : t < 32) (h : bt x t = true) : x ^^^ sb t = x &&& (sb t ^^^ (-1)) := b_ext fun i hi => by
  rw [b_xor, b_and, bt_not _ hi, bt_sb ht]
  by_cases e : i = t
  · subst e
    rw [h]
    simp
  · rw [decide_eq_false e]
    simp
theorem sb_ne0 {t : Nat} (ht : t < 32) : sb t ≠ 0 := bt_ne0.mpr ⟨t, by rw [bt_sb ht]; exact decide_eq_true rfl⟩
