/-! what a round derives -/
def hp_i (A : Nat → Int32) (p : Nat) : Nat := (A p).toNatClampNeg
def hp_E (K L R A Rk : Nat → Int32) (i t g : Nat) : Prop :=
  (K (t / 16) = 2 ∧ (A (hp_l L t) = nI g ∨ A (hp_l R t) = nI g)) ∨
  (K (t / 16) = 3 ∧ A (hp_l L t) = nI g ∧ hp_H Rk i (hp_i A (hp_l R t))) ∨
  (K (t / 16) = 4 ∧ A (hp_l L t) = nI g ∧ K (hp_i A (hp_l R t) / 16) = 5 ∧ hp_H Rk i (hp_i A (hp_l L (hp_i A (hp_l R t)))))
def hp_m (A Rk : Nat → Int32) (i : Nat) (x : Int32) (s : Nat) : Prop := x = -1 ∨ hp_H Rk i (hp_i A (x.toNatClampNeg * 16 + s))
def hp_F (n : Nat) (A r0 r1 rc Rk : Nat → Int32) (i r s g : Nat) : Prop :=
  hp_V n s ∧ A ((rc r).toNatClampNeg * 16 + s) = nI g ∧ hp_m A Rk i (r0 r) s ∧ hp_m A Rk i (r1 r) s
def hp_c (K L R A Rk : Nat → Int32) (i g : Nat) : Prop :=
  A g = nI g ∧ ¬ hp_a K g ∧ hp_H Rk i (hp_i A (hp_l L g)) ∧ (K (g / 16) = 5 ∨ hp_H Rk i (hp_i A (hp_l R g)))
def hp_D (n nr : Nat) (K L R A r0 r1 rc Rk : Nat → Int32) (i g : Nat) : Prop :=
  g < 256 ∧ A g = nI g ∧ (hp_c K L R A Rk i g ∨ (∃ t, t < 256 ∧ A t = nI t ∧ hp_H Rk i t ∧ hp_E K L R A Rk i t g) ∨
    ∃ r s, r < nr ∧ s < 16 ∧ hp_F n A r0 r1 rc Rk i r s g)
section HD
variable {n c : Nat} {K L R A Rk : Nat → Int32} {t i : Nat}
theorem hc_v (C : ∀ p, p < 256 → hp_Q n c K L R A p) (ht : t < 256) (h : ¬ A t = -1) : t / 16 < c ∧ hp_V n (t % 16) := by
  by_cases e : t / 16 < c ∧ hp_V n (t % 16)
  · exact e
  · exact absurd ((C t ht).2 e) h
theorem hc_g (C : ∀ p, p < 256 → hp_Q n c K L R A p) (ht : t < 256) (h : A t = nI t) : t / 16 < c ∧ hp_V n (t % 16) :=
  hc_v C ht (by rw [h]; exact ha_ne1 (by omega))
theorem hc_p (W : hp_W n c K L R) (C : ∀ p, p < 256 → hp_Q n c K L R A p) (h : t / 16 < c ∧ hp_V n (t % 16)) : ∃ x, x < 256 ∧ A t = nI x ∧ A x = nI x ∧ hp_i A t = x := by
  have := W.2.2.1
  obtain ⟨q, a, b, _, _, _, g⟩ := hc_1 C (show t < 256 by omega) h.1 h.2
  refine ⟨q, by omega, b, g, ?_⟩
  unfold hp_i
  rw [b, nI_clamp (by omega)]
theorem hc_l (W : hp_W n c K L R) (C : ∀ p, p < 256 → hp_Q n c K L R A p) (h : t / 16 < c ∧ hp_V n (t % 16)) (na : ¬ hp_a K t) :
    ∃ l x, l < 16 ∧ L (t / 16) = nI l ∧ hp_l L t = l * 16 + t % 16 ∧ x < 256 ∧ A (hp_l L t) = nI x ∧ A x = nI x ∧ hp_i A (hp_l L t) = x := by
  have := W.2.2.1
  obtain ⟨l, a, b, e⟩ := hw_lp W h.1 na
  have h1 : hp_l L t / 16 = l := by omega
  have h2 : hp_l L t % 16 = t % 16 := by omega
  obtain ⟨x, x1, x2, x3, x4⟩ := hc_p W C (t := hp_l L t) ⟨by omega, by rw [h2]; exact h.2⟩
  exact ⟨l, x, by omega, b, e, x1, x2, x3, x4⟩
theorem hc_r (W : hp_W n c K L R) (C : ∀ p, p < 256 → hp_Q n c K L R A p) (h : t / 16 < c ∧ hp_V n (t % 16)) (na : ¬ hp_a K t) (n5 : ¬ K (t / 16) = 5) :
    ∃ l x, l < 16 ∧ R (t / 16) = nI l ∧ hp_l R t = l * 16 + t % 16 ∧ x < 256 ∧ A (hp_l R t) = nI x ∧ A x = nI x ∧ hp_i A (hp_l R t) = x := by
  have := W.2.2.1
  obtain ⟨l, a, b, e⟩ := hw_rp W h.1 na n5
  have h1 : hp_l R t / 16 = l := by omega
  have h2 : hp_l R t % 16 = t % 16 := by omega
  obtain ⟨x, x1, x2, x3, x4⟩ := hc_p W C (t := hp_l R t) ⟨by omega, by rw [h2]; exact h.2⟩
  exact ⟨l, x, by omega, b, e, x1, x2, x3, x4⟩
theorem hn_2 (h : K (t / 16) = 2) : ¬ hp_a K t := by
  unfold hp_a
  rw [h]
  decide
theorem hn_3 (h : K (t / 16) = 3) : ¬ hp_a K t := by
  unfold hp_a
  rw [h]
  decide
theorem hn_4 (h : K (t / 16) = 4) : ¬ hp_a K t := by
  unfold hp_a
  rw [h]
  decide
theorem hn_5 (h : K (t / 16) = 5) : ¬ hp_a K t := by
  unfold hp_a
  rw [h]
  decide
/-- all ranked ids are ground ids, their ranks at most i -/
def hp_G (A Rk : Nat → Int32) (i : Nat) : Prop := ∀ g, g < 256 → Rk g = -1 ∨ (A g = nI g ∧ ∃ j, j ≤ i ∧ Rk g = nI j)
theorem hg_s {D : Nat → Prop} (hD : ∀ g, D g → A g = nI g) (h : hp_G A Rk i) : hp_G A (hp_u Rk i D) (i + 1) := by
  intro g hg
  by_cases h1 : Rk g = -1
  · by_cases d : D g
    · exact Or.inr ⟨hD g d, i + 1, Nat.le_refl _, hu_1 h1 d⟩
    · rw [hu_2 d]
      exact Or.inl h1
  · rw [hu_3 h1]
    rcases h g hg with a | ⟨a, j, b, e⟩
    · exact Or.inl a
    · exact Or.inr ⟨a, j, by omega, e⟩
end HD
