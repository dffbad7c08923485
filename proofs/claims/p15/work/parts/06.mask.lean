/-! the variables in a term's tree -/
def hp_mv (c : Nat) (K L R M : Nat → Int32) (h : Nat) : Int32 :=
  if c ≤ h ∨ K h = 0 then 0 else if K h = 1 then (if L h = 0 then 1 else 2) else if K h = 5 then M (L h).toNatClampNeg else M (L h).toNatClampNeg ||| M (R h).toNatClampNeg
def hp_M (c : Nat) (K L R M : Nat → Int32) : Prop := ∀ h, h < 16 → M h = hp_mv c K L R M h
section HM
variable {n c : Nat} {K L R M : Nat → Int32} {h : Nat}
theorem hm_c {c' : Nat} {K' L' R' M' : Nat → Int32} (W : hp_W n c' K' L' R') (hc : c ≤ h ↔ c' ≤ h) (e : h < c' → K' h = K h ∧ L' h = L h ∧ R' h = R h) (em : ∀ x, x < h → M' x = M x) : hp_mv c' K' L' R' M' h = hp_mv c K L R M h := by
  have w := W.2.2.1
  unfold hp_mv
  by_cases hh : c' ≤ h
  · rw [if_pos (Or.inl hh), if_pos (Or.inl (hc.mpr hh))]
  · obtain ⟨e1, e2, e3⟩ := e (by omega)
    have hh' : ¬ c ≤ h := fun z => hh (hc.mp z)
    by_cases k0 : K h = 0
    · rw [if_pos (Or.inr k0), if_pos (Or.inr (e1.trans k0))]
    · have n1 : ¬ (c ≤ h ∨ K h = 0) := fun z => z.elim hh' k0
      have n2 : ¬ (c' ≤ h ∨ K' h = 0) := fun z => z.elim hh (by rw [e1]; exact k0)
      rw [if_neg n1, if_neg n2, e1, e2, e3]
      by_cases k1 : K h = 1
      · rw [if_pos k1, if_pos k1]
      · rw [if_neg k1, if_neg k1]
        obtain ⟨_, ⟨l, hl, el⟩, h5⟩ := hw_na (K := K') (h := h) (by rw [e1]; exact fun z => z.elim k0 k1) W (by omega)
        rw [e2] at el
        by_cases k5 : K h = 5
        · rw [if_pos k5, if_pos k5, el, nI_clamp (by omega), em l hl]
        · rw [if_neg k5, if_neg k5]
          rcases h5 with h5 | ⟨_, r, hr, er⟩
          · exact absurd (e1.symm.trans h5.1) k5
          · rw [e3] at er
            rw [el, er, nI_clamp (by omega), nI_clamp (by omega), em l hl, em r hr]
end HM
