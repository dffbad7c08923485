/-! a rule's step, purely -/
def hp_b (A : Nat → Int32) (x : Int32) (s : Nat) (f : Int32) : Prop := x = -1 ∨ A (x.toNatClampNeg * 16 + s) = f
def hp_z (n : Nat) (A : Nat → Int32) (x y z fb fc r : Int32) : Prop :=
  (∃ s, s < 16 ∧ hp_V n s ∧ (hp_b A x s fb ∧ hp_b A y s fc) ∧ (∀ t, t < s → hp_V n t → ¬ (hp_b A x t fb ∧ hp_b A y t fc)) ∧ r = A (z.toNatClampNeg * 16 + s)) ∨
  (r = -1 ∧ ∀ s, s < 16 → hp_V n s → ¬ (hp_b A x s fb ∧ hp_b A y s fc))
theorem hz_ex (n : Nat) (A : Nat → Int32) (x y z fb fc : Int32) : ∃ r, hp_z n A x y z fb fc r := by
  by_cases h : ∃ s, s < 16 ∧ hp_V n s ∧ (hp_b A x s fb ∧ hp_b A y s fc)
  · obtain ⟨s, ⟨h1, h2, h3⟩, hl⟩ := pk_least (fun s => s < 16 ∧ hp_V n s ∧ (hp_b A x s fb ∧ hp_b A y s fc)) h
    exact ⟨_, Or.inl ⟨s, h1, h2, h3, fun t ht hv z => hl t ht ⟨by omega, hv, z⟩, rfl⟩⟩
  · exact ⟨-1, Or.inr ⟨rfl, fun s hs hv z => h ⟨s, hs, hv, z⟩⟩⟩
/-- an answer of a new fact: none, or a ground id -/
def hp_o (A : Nat → Int32) (r : Int32) : Prop := r = -1 ∨ ∃ g, g < 256 ∧ r = nI g ∧ A g = nI g
section HZ
variable {n c nr : Nat} {K L R A r0 r1 rc : Nat → Int32}
theorem ho_r {k u v r : Int32} (h : hp_r K L R A k u v r) : hp_o A r := by
  rcases h with ⟨g, h1, h2, h3, _⟩ | ⟨h, _⟩
  · exact Or.inr ⟨g, h1, h2, h3.1⟩
  · exact Or.inl h
theorem ho_z (W : hp_W n c K L R) (C : ∀ p, p < 256 → hp_Q n c K L R A p) {x y z fb fc r : Int32} (hz : ∃ h, h < c ∧ z = nI h) (h : hp_z n A x y z fb fc r) : hp_o A r := by
  rcases h with ⟨s, h1, h2, _, _, h3⟩ | ⟨h, _⟩
  · obtain ⟨h0, hh, rfl⟩ := hz
    have w := W.2.2.1
    rw [nI_clamp (by omega)] at h3
    have e2 : (h0 * 16 + s) % 16 = s := by omega
    obtain ⟨q, x1, x2, x3, _⟩ := hc_p W C (t := h0 * 16 + s) ⟨by omega, by rw [e2]; exact h2⟩
    exact Or.inr ⟨q, x1, h3.trans x2, x3⟩
  · exact Or.inl h
end HZ
