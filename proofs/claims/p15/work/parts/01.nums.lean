/-! own numbers -/
theorem ha_ne1 {a : Nat} (h : a < 2 ^ 31) : ¬ nI a = -1 := by
  intro e
  have := nI_pos (n := a) h
  rw [e] at this
  exact this (by decide)
theorem ha_n1lt : (-1 : Int32) < 0 := by decide
theorem ha_eq {a b : Nat} (h : nI a = nI b) (ha : a < 2 ^ 31) (hb : b < 2 ^ 31) : a = b := (nI_eq ha hb).mp h
theorem ha_16 (a : Nat) : nI a * 16 = nI (a * 16) := pk_mul a 16
theorem ha_4 (a : Nat) : 4 * nI a = nI (4 * a) := pk_mul 4 a
theorem ha_d16 {a : Nat} (h : a < 2 ^ 31) : nI a / 16 = nI (a / 16) := pk_div (d := 16) h (by decide) (by decide)
theorem ha_r16 {a : Nat} (h : a < 2 ^ 31) : nI a - nI a / 16 * 16 = nI (a % 16) := pk_rem (d := 16) h (by decide) (by decide)
theorem ha_a15 {a : Nat} (h : a < 2 ^ 31) : nI a &&& 15 = nI (a % 16) := pk_andN (by omega) 4 (by decide)
theorem ha_a3 {a : Nat} (h : a < 2 ^ 31) : nI a &&& 3 = nI (a % 4) := pk_andN (by omega) 2 (by decide)
theorem ha_a255 {a : Nat} (h : a < 256) : nI a &&& 255 = nI a := by
  rw [pk_andN (m := 255) (by omega) 8 (by decide), Nat.mod_eq_of_lt (by omega)]
theorem ha_s4 {a : Nat} (h : a < 2 ^ 31) : nI a >>> ((4 : Int32) &&& 31) = nI (a / 16) := pk_shrN h _ 4 (by decide)
theorem ha_s2 {a : Nat} (h : a < 2 ^ 31) : nI a >>> ((2 : Int32) &&& 31) = nI (a / 4) := pk_shrN h _ 2 (by decide)
