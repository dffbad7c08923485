/-! both constructors -/
theorem hp_cl (x : Int32) {lo hi : Nat} (h : lo ≤ hi) (hb : hi < 1000) : ∃ j, lo ≤ j ∧ j ≤ hi ∧ ∀ P : Int32 → Prop, P (nI j) → ((nI lo ≤ x → ((x ≤ nI hi → P x) ∧ (¬ x ≤ nI hi → P (nI hi)))) ∧ (¬ nI lo ≤ x → P (nI lo))) := by
  by_cases h1 : nI lo ≤ x
  · by_cases h2 : x ≤ nI hi
    · have h0 : ¬ x < 0 := fun z => by
        have := Int32.lt_of_le_of_lt h1 z
        exact nI_pos (by omega) this
      obtain ⟨j, hj, rfl⟩ := nI_of h0
      rw [nI_leI (by omega) hj] at h1
      rw [nI_leI hj (by omega)] at h2
      exact ⟨j, h1, h2, fun P hP => br_t (nI_le h1 hj) (br_t (nI_le h2 (by omega)) hP)⟩
    · exact ⟨hi, h, Nat.le_refl _, fun P hP => br_t h1 (br_f h2 hP)⟩
  · exact ⟨lo, Nat.le_refl _, h, fun P hP => br_f h1 hP⟩
def hp_neg (m : Nat) : Nat → Int32 := fun p => if p < m then -1 else 0
theorem hn_s (m : Nat) : upd (hp_neg m) m (-1) = hp_neg (m + 1) := by
  funext p
  by_cases e : p = m
  · subst e
    rw [pk_us]
    exact (if_pos (by omega)).symm
  · rw [pk_un e]
    by_cases h : p < m
    · exact (if_pos h).trans (if_pos (show p < m + 1 by omega)).symm
    · exact (if_neg h).trans (if_neg (show ¬ p < m + 1 by omega)).symm
theorem hn_0 : (fun _ => 0 : Nat → Int32) = hp_neg 0 := funext fun p => (if_neg (Nat.not_lt_zero p)).symm
theorem hn_lo {p : Nat} (h : p < 256) : hp_neg 256 p = -1 := if_pos h
theorem hn_hi {p : Nat} (h : 256 ≤ p) : hp_neg 256 p = 0 := if_neg (by omega)
section HXI
variable {fN fT fP fp fc fe fr fs fk : Int32} {K L R M A Z E r0 r1 rc F : Nat → Int32} {n : Nat} {post : St2 → Prop}
end HXI
section HYI
end HYI
