/-! ===== pure: rows by numbers, states of a side ===== -/
def xw_up {α : Type} (f : Nat → α) (j : Nat) (v : α) : Nat → α := fun k => cond (Nat.beq k j) v (f k)
theorem xw_ups {α : Type} {f : Nat → α} {j : Nat} {v : α} : xw_up f j v j = v := by simp [xw_up]
theorem xw_upn {α : Type} {f : Nat → α} {j k : Nat} {v : α} (h : k ≠ j) : xw_up f j v k = f k := by
  have : Nat.beq k j = false := by
    cases hb : Nat.beq k j with
    | true => exact absurd (Nat.eq_of_beq_eq_true hb) h
    | false => rfl
  simp [xw_up, this]
abbrev xw_I : Type := Nat → Int32
abbrev xw_F : Type := Nat → Nat → Int32
abbrev xw_G : Type := Nat → Nat → Int64
abbrev xw_S : Type := xw_I × xw_F × xw_G
