/-! ranks, purely: a set of ground ids learnt in round i over the ranks of the rounds before -/
noncomputable def hp_u (Rk : Nat → Int32) (i : Nat) (D : Nat → Prop) : Nat → Int32 := fun g => @ite _ (Rk g = -1 ∧ D g) (Classical.propDecidable _) (nI (i + 1)) (Rk g)
def hp_H (Rk : Nat → Int32) (i g : Nat) : Prop := ∃ j, j ≤ i ∧ Rk g = nI j
/-- the number of ranked ids below m -/
def hp_k (Rk : Nat → Int32) : Nat → Nat
  | 0 => 0
  | m + 1 => hp_k Rk m + (if Rk m = -1 then 0 else 1)
section HR
variable {Rk : Nat → Int32} {i g m : Nat} {D D' : Nat → Prop}
theorem hu_1 (h : Rk g = -1) (d : D g) : hp_u Rk i D g = nI (i + 1) := if_pos ⟨h, d⟩
theorem hu_2 (h : ¬ D g) : hp_u Rk i D g = Rk g := if_neg (fun z => h z.2)
theorem hu_3 (h : ¬ Rk g = -1) : hp_u Rk i D g = Rk g := if_neg (fun z => h z.1)
theorem hu_e (h : ∀ g, D g ↔ D' g) : hp_u Rk i D = hp_u Rk i D' := by
  have : D = D' := funext fun g => propext (h g)
  rw [this]
theorem hu_0 (h : ∀ g, ¬ D g) : hp_u Rk i D = Rk := funext fun g => hu_2 (h g)
theorem hu_H (hi : i < 1000) : hp_H (hp_u Rk i D) i g ↔ hp_H Rk i g := by
  by_cases h : Rk g = -1
  · by_cases d : D g
    · unfold hp_H
      rw [hu_1 h d, h]
      constructor
      · rintro ⟨j, a, b⟩
        have := ha_eq b (by omega) (by omega)
        omega
      · rintro ⟨j, a, b⟩
        exact absurd b.symm (ha_ne1 (by omega))
    · unfold hp_H
      rw [hu_2 d]
  · unfold hp_H
    rw [hu_3 h]
/-- learning g: already ranked -/
theorem hu_k (hi : i < 1000) (h : ¬ hp_u Rk i D g = -1) : hp_u Rk i (fun x => D x ∨ x = g) = hp_u Rk i D := by
  funext x
  by_cases hx : x = g
  · subst hx
    by_cases h1 : Rk x = -1
    · by_cases d : D x
      · rw [hu_1 h1 d, hu_1 h1 (Or.inl d)]
      · rw [hu_2 d] at h
        exact absurd h1 h
    · rw [hu_3 h1, hu_3 h1]
  · by_cases h1 : Rk x = -1
    · by_cases d : D x
      · rw [hu_1 h1 d, hu_1 h1 (Or.inl d)]
      · rw [hu_2 d, hu_2 (fun z => z.elim d hx)]
    · rw [hu_3 h1, hu_3 h1]
/-- learning g: not yet ranked -/
theorem hu_n (h : hp_u Rk i D g = -1) (hi : i < 1000) : hp_u Rk i (fun x => D x ∨ x = g) = upd (hp_u Rk i D) g (nI (i + 1)) := by
  have hg : Rk g = -1 := by
    by_cases h1 : Rk g = -1
    · exact h1
    · rw [hu_3 h1] at h
      exact h
  funext x
  by_cases hx : x = g
  · subst hx
    rw [pk_us, hu_1 hg (Or.inr rfl)]
  · rw [pk_un hx]
    by_cases h1 : Rk x = -1
    · by_cases d : D x
      · rw [hu_1 h1 d, hu_1 h1 (Or.inl d)]
      · rw [hu_2 d, hu_2 (fun z => z.elim d hx)]
    · rw [hu_3 h1, hu_3 h1]
theorem hk_le : hp_k Rk m ≤ m := by
  induction m with
  | zero => exact Nat.le_refl _
  | succ m ih =>
    show hp_k Rk m + (if Rk m = -1 then 0 else 1) ≤ m + 1
    split <;> omega
theorem hk_c {Rk' : Nat → Int32} (h : ∀ g, g < m → Rk' g = Rk g) : hp_k Rk' m = hp_k Rk m := by
  induction m with
  | zero => rfl
  | succ m ih =>
    show hp_k Rk' m + (if Rk' m = -1 then 0 else 1) = hp_k Rk m + (if Rk m = -1 then 0 else 1)
    rw [ih (fun g hg => h g (by omega)), h m (by omega)]
theorem hk_u {x : Int32} (hg : g < m) (h : Rk g = -1) (hx : ¬ x = -1) : hp_k (upd Rk g x) m = hp_k Rk m + 1 := by
  induction m with
  | zero => omega
  | succ m ih =>
    show hp_k (upd Rk g x) m + (if upd Rk g x m = -1 then 0 else 1) = hp_k Rk m + (if Rk m = -1 then 0 else 1) + 1
    by_cases e : g = m
    · subst e
      rw [hk_c (m := g) (Rk := Rk) (fun y hy => pk_un (by omega)), pk_us, if_neg hx, if_pos h]
    · rw [ih (by omega), pk_un (by omega)]
      omega
theorem hk_m {Rk' : Nat → Int32} (h : ∀ g, g < m → Rk' g = -1 → Rk g = -1) : hp_k Rk m ≤ hp_k Rk' m := by
  induction m with
  | zero => exact Nat.le_refl _
  | succ m ih =>
    show hp_k Rk m + (if Rk m = -1 then 0 else 1) ≤ hp_k Rk' m + (if Rk' m = -1 then 0 else 1)
    have := ih (fun g hg => h g (by omega))
    by_cases e : Rk' m = -1
    · rw [if_pos e, if_pos (h m (by omega) e)]
      omega
    · rw [if_neg e]
      split <;> omega
/-- equal counts: nothing is new -/
theorem hk_e {Rk' : Nat → Int32} (h : ∀ g, g < m → Rk' g = -1 → Rk g = -1) (he : hp_k Rk' m = hp_k Rk m) : ∀ g, g < m → Rk g = -1 → Rk' g = -1 := by
  induction m with
  | zero => intro g hg; omega
  | succ m ih =>
    have h1 : hp_k Rk m ≤ hp_k Rk' m := hk_m (fun g hg => h g (by omega))
    have he' : hp_k Rk' m + (if Rk' m = -1 then 0 else 1) = hp_k Rk m + (if Rk m = -1 then 0 else 1) := he
    by_cases e : Rk' m = -1
    · rw [if_pos e, if_pos (h m (by omega) e)] at he'
      intro g hg hR
      by_cases hgm : g = m
      · rw [hgm]; exact e
      · exact ih (fun g hg => h g (by omega)) (by omega) g (by omega) hR
    · rw [if_neg e] at he'
      by_cases e2 : Rk m = -1
      · rw [if_pos e2] at he'
        omega
      · rw [if_neg e2] at he'
        intro g hg hR
        by_cases hgm : g = m
        · rw [hgm] at hR
          exact absurd hR e2
        · exact ih (fun g hg => h g (by omega)) (by omega) g (by omega) hR
theorem hu_m (hi : i < 1000) : hp_u Rk i D g = -1 → Rk g = -1 := by
  intro h
  by_cases h1 : Rk g = -1
  · exact h1
  · rw [hu_3 h1] at h
    exact h
theorem hu_s (hi : i < 1000) (hD : ∀ g, D g → g < 256) (he : hp_k (hp_u Rk i D) 256 = hp_k Rk 256) : hp_u Rk i D = Rk := by
  have h := hk_e (m := 256) (Rk := Rk) (Rk' := hp_u Rk i D) (fun g _ => hu_m hi) he
  funext g
  by_cases h1 : Rk g = -1
  · by_cases d : D g
    · rw [h g (hD g d) h1, h1]
    · exact hu_2 d
  · exact hu_3 h1
end HR
/-- the rounds: what round i derives is a set over the ranks at its head -/
noncomputable def hp_it (R0 : Nat → Int32) (D : (Nat → Int32) → Nat → Nat → Prop) : Nat → Nat → Int32
  | 0 => R0
  | i + 1 => hp_u (hp_it R0 D i) i (D (hp_it R0 D i) i)
theorem hp_stop (R0 : Nat → Int32) (D : (Nat → Int32) → Nat → Nat → Prop) (hD : ∀ Rk i g, D Rk i g → g < 256) :
    ∃ f, f ≤ 256 ∧ hp_k (hp_it R0 D (f + 1)) 256 = hp_k (hp_it R0 D f) 256 ∧ ∀ j, j < f → hp_k (hp_it R0 D j) 256 < hp_k (hp_it R0 D (j + 1)) 256 := by
  have mono : ∀ j, j < 1000 → hp_k (hp_it R0 D j) 256 ≤ hp_k (hp_it R0 D (j + 1)) 256 := fun j hj =>
    hk_m (fun g _ h => hu_m (Rk := hp_it R0 D j) (D := D (hp_it R0 D j) j) hj h)
  have ex : ∃ f, f ≤ 256 ∧ hp_k (hp_it R0 D (f + 1)) 256 = hp_k (hp_it R0 D f) 256 := by
    apply Classical.byContradiction
    intro no
    have gr : ∀ j, j ≤ 257 → j ≤ hp_k (hp_it R0 D j) 256 := by
      intro j
      induction j with
      | zero => intro _; omega
      | succ j ih =>
        intro hj
        have h1 := ih (by omega)
        have h2 := mono j (by omega)
        have h3 : ¬ hp_k (hp_it R0 D (j + 1)) 256 = hp_k (hp_it R0 D j) 256 := fun z => no ⟨j, by omega, z⟩
        omega
    have h1 := gr 257 (by omega)
    have h2 : hp_k (hp_it R0 D 257) 256 ≤ 256 := hk_le
    omega
  obtain ⟨f, ⟨a, b⟩, l⟩ := pk_least (fun f => f ≤ 256 ∧ hp_k (hp_it R0 D (f + 1)) 256 = hp_k (hp_it R0 D f) 256) ex
  refine ⟨f, a, b, fun j hj => ?_⟩
  have h1 := mono j (by omega)
  have h2 : ¬ hp_k (hp_it R0 D (j + 1)) 256 = hp_k (hp_it R0 D j) 256 := fun z => l j hj ⟨by omega, z⟩
  omega
