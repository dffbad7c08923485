/-! the set that X has learnt in the midst of a round -/
def hp_X (n : Nat) (K L R A r0 r1 rc Rk : Nat → Int32) (i mc mt r s g : Nat) : Prop :=
  g < 256 ∧ ((g < mc ∧ hp_c K L R A Rk i g) ∨ (∃ t, t < mt ∧ A t = nI t ∧ hp_H Rk i t ∧ hp_E K L R A Rk i t g) ∨
    ∃ r' s', (r' < r ∨ (r' = r ∧ s' < s)) ∧ s' < 16 ∧ hp_F n A r0 r1 rc Rk i r' s' g)
section HX
variable {n c nr : Nat} {K L R A r0 r1 rc Rk : Nat → Int32} {i mc mt r s g a b : Nat}
theorem hx_0 : ¬ hp_X n K L R A r0 r1 rc Rk i 0 0 0 0 g := by
  rintro ⟨_, ⟨h, _⟩ | ⟨t, h, _⟩ | ⟨r', s', h, _⟩⟩
  · omega
  · omega
  · omega
theorem hx_c1 (hm : mc < 256) (h : hp_c K L R A Rk i mc) : hp_X n K L R A r0 r1 rc Rk i (mc + 1) mt r s g ↔ hp_X n K L R A r0 r1 rc Rk i mc mt r s g ∨ g = mc := by
  constructor
  · rintro ⟨x, ⟨y, z⟩ | y⟩
    · by_cases e : g = mc
      · exact Or.inr e
      · exact Or.inl ⟨x, Or.inl ⟨by omega, z⟩⟩
    · exact Or.inl ⟨x, Or.inr y⟩
  · rintro (⟨x, ⟨y, z⟩ | y⟩ | e)
    · exact ⟨x, Or.inl ⟨by omega, z⟩⟩
    · exact ⟨x, Or.inr y⟩
    · subst e
      exact ⟨hm, Or.inl ⟨by omega, h⟩⟩
theorem hx_c0 (h : ¬ hp_c K L R A Rk i mc) : hp_X n K L R A r0 r1 rc Rk i (mc + 1) mt r s g ↔ hp_X n K L R A r0 r1 rc Rk i mc mt r s g := by
  constructor
  · rintro ⟨x, ⟨y, z⟩ | y⟩
    · by_cases e : g = mc
      · subst e
        exact absurd z h
      · exact ⟨x, Or.inl ⟨by omega, z⟩⟩
    · exact ⟨x, Or.inr y⟩
  · rintro ⟨x, ⟨y, z⟩ | y⟩
    · exact ⟨x, Or.inl ⟨by omega, z⟩⟩
    · exact ⟨x, Or.inr y⟩
/-- the next t of takeApart: what it gives is P -/
theorem hx_t (P : Nat → Prop) (hP : ∀ g, g < 256 → ((A mt = nI mt ∧ hp_H Rk i mt ∧ hp_E K L R A Rk i mt g) ↔ P g)) (hb : ∀ g, P g → g < 256) : hp_X n K L R A r0 r1 rc Rk i mc (mt + 1) r s g ↔ hp_X n K L R A r0 r1 rc Rk i mc mt r s g ∨ P g := by
  constructor
  · rintro ⟨x, y | ⟨t, h, z⟩ | y⟩
    · exact Or.inl ⟨x, Or.inl y⟩
    · by_cases e : t = mt
      · subst e
        exact Or.inr ((hP g x).mp z)
      · exact Or.inl ⟨x, Or.inr (Or.inl ⟨t, by omega, z⟩)⟩
    · exact Or.inl ⟨x, Or.inr (Or.inr y)⟩
  · rintro (⟨x, y | ⟨t, h, z⟩ | y⟩ | e)
    · exact ⟨x, Or.inl y⟩
    · exact ⟨x, Or.inr (Or.inl ⟨t, by omega, z⟩)⟩
    · exact ⟨x, Or.inr (Or.inr y)⟩
    · exact ⟨hb g e, Or.inr (Or.inl ⟨mt, by omega, (hP g (hb g e)).mpr e⟩)⟩
theorem hx_t0 (h : ∀ g, g < 256 → ¬ (A mt = nI mt ∧ hp_H Rk i mt ∧ hp_E K L R A Rk i mt g)) : hp_X n K L R A r0 r1 rc Rk i mc (mt + 1) r s g ↔ hp_X n K L R A r0 r1 rc Rk i mc mt r s g := by
  have := hx_t (n := n) (K := K) (L := L) (R := R) (A := A) (r0 := r0) (r1 := r1) (rc := rc) (Rk := Rk) (i := i) (mc := mc) (mt := mt) (r := r) (s := s) (g := g) (fun _ => False) (fun g hg => ⟨fun z => h g hg z, fun z => z.elim⟩) (fun g z => z.elim)
  rw [this]
  exact ⟨fun z => z.elim id (fun y => y.elim), Or.inl⟩
/-- the next code of a rule: what it gives is P -/
theorem hx_r (P : Nat → Prop) (hs : s < 16) (hP : ∀ g, g < 256 → (hp_F n A r0 r1 rc Rk i r s g ↔ P g)) (hb : ∀ g, P g → g < 256) : hp_X n K L R A r0 r1 rc Rk i mc mt r (s + 1) g ↔ hp_X n K L R A r0 r1 rc Rk i mc mt r s g ∨ P g := by
  constructor
  · rintro ⟨x, y | y | ⟨r', s', h, h16, z⟩⟩
    · exact Or.inl ⟨x, Or.inl y⟩
    · exact Or.inl ⟨x, Or.inr (Or.inl y)⟩
    · by_cases e : r' = r ∧ s' = s
      · obtain ⟨rfl, rfl⟩ := e
        exact Or.inr ((hP g x).mp z)
      · exact Or.inl ⟨x, Or.inr (Or.inr ⟨r', s', by omega, h16, z⟩)⟩
  · rintro (⟨x, y | y | ⟨r', s', h, h16, z⟩⟩ | e)
    · exact ⟨x, Or.inl y⟩
    · exact ⟨x, Or.inr (Or.inl y)⟩
    · exact ⟨x, Or.inr (Or.inr ⟨r', s', by omega, h16, z⟩)⟩
    · exact ⟨hb g e, Or.inr (Or.inr ⟨r, s, by omega, hs, (hP g (hb g e)).mpr e⟩)⟩
/-- codes that are none add nothing -/
theorem hx_rs {s2 : Nat} (h1 : s ≤ s2) (h : ∀ x, s ≤ x → x < s2 → x < 16 → ¬ hp_V n x) : hp_X n K L R A r0 r1 rc Rk i mc mt r s2 g ↔ hp_X n K L R A r0 r1 rc Rk i mc mt r s g := by
  constructor
  · rintro ⟨x, y | y | ⟨r', s', hh, h16, z⟩⟩
    · exact ⟨x, Or.inl y⟩
    · exact ⟨x, Or.inr (Or.inl y)⟩
    · by_cases e : r' = r ∧ s ≤ s'
      · exact absurd z.1 (h s' e.2 (by omega) h16)
      · exact ⟨x, Or.inr (Or.inr ⟨r', s', by omega, h16, z⟩)⟩
  · rintro ⟨x, y | y | ⟨r', s', hh, h16, z⟩⟩
    · exact ⟨x, Or.inl y⟩
    · exact ⟨x, Or.inr (Or.inl y)⟩
    · exact ⟨x, Or.inr (Or.inr ⟨r', s', by omega, h16, z⟩)⟩
theorem hx_rn (h : ∀ x, s ≤ x → x < 16 → ¬ hp_V n x) : hp_X n K L R A r0 r1 rc Rk i mc mt (r + 1) 0 g ↔ hp_X n K L R A r0 r1 rc Rk i mc mt r s g := by
  constructor
  · rintro ⟨x, y | y | ⟨r', s', hh, h16, z⟩⟩
    · exact ⟨x, Or.inl y⟩
    · exact ⟨x, Or.inr (Or.inl y)⟩
    · by_cases e : r' = r ∧ s ≤ s'
      · exact absurd z.1 (h s' e.2 h16)
      · exact ⟨x, Or.inr (Or.inr ⟨r', s', by omega, h16, z⟩)⟩
  · rintro ⟨x, y | y | ⟨r', s', hh, h16, z⟩⟩
    · exact ⟨x, Or.inl y⟩
    · exact ⟨x, Or.inr (Or.inl y)⟩
    · exact ⟨x, Or.inr (Or.inr ⟨r', s', by omega, h16, z⟩)⟩
/-- the rules' terms are handles -/
def hp_R (c nr : Nat) (r0 r1 rc : Nat → Int32) : Prop := ∀ r, r < nr → (r0 r = -1 ∨ ∃ h, h < c ∧ r0 r = nI h) ∧ (r1 r = -1 ∨ ∃ h, h < c ∧ r1 r = nI h) ∧ ∃ h, h < c ∧ rc r = nI h
theorem hE_g (W : hp_W n c K L R) (C : ∀ p, p < 256 → hp_Q n c K L R A p) {t : Nat} (ht : t < 256) (hA : A t = nI t) (hg : g < 256) (h : hp_E K L R A Rk i t g) : A g = nI g := by
  have hv := hc_g C ht hA
  have key : ∀ na : ¬ hp_a K t, A (hp_l L t) = nI g → A g = nI g := fun na e => by
    obtain ⟨l, x, _, _, _, x1, x2, x3, _⟩ := hc_l W C hv na
    have := ha_eq (x2.symm.trans e) (by omega) (by omega)
    subst this
    exact x3
  rcases h with ⟨k, e | e⟩ | ⟨k, e, _⟩ | ⟨k, e, _⟩
  · exact key (hn_2 k) e
  · obtain ⟨l, x, _, _, _, x1, x2, x3, _⟩ := hc_r W C hv (hn_2 k) (by rw [k]; decide)
    have := ha_eq (x2.symm.trans e) (by omega) (by omega)
    subst this
    exact x3
  · exact key (hn_3 k) e
  · exact key (hn_4 k) e
theorem hF_g (W : hp_W n c K L R) (C : ∀ p, p < 256 → hp_Q n c K L R A p) (hR : hp_R c nr r0 r1 rc) (hr : r < nr) (hs : s < 16) (hg : g < 256) (h : hp_F n A r0 r1 rc Rk i r s g) : A g = nI g := by
  obtain ⟨h0, hh, e⟩ := (hR r hr).2.2
  have w := W.2.2.1
  have h2 := h.2.1
  rw [e, nI_clamp (by omega)] at h2
  have e1 : (h0 * 16 + s) / 16 = h0 := by omega
  have e2 : (h0 * 16 + s) % 16 = s := by omega
  obtain ⟨x, x1, x2, x3, _⟩ := hc_p W C (t := h0 * 16 + s) ⟨by omega, by rw [e2]; exact h.1⟩
  have := ha_eq (x2.symm.trans h2) (by omega) (by omega)
  subst this
  exact x3
theorem hx_D (W : hp_W n c K L R) (C : ∀ p, p < 256 → hp_Q n c K L R A p) (hR : hp_R c nr r0 r1 rc) : hp_X n K L R A r0 r1 rc Rk i 256 256 nr 0 g ↔ hp_D n nr K L R A r0 r1 rc Rk i g := by
  constructor
  · rintro ⟨x, ⟨_, y⟩ | ⟨t, h, y⟩ | ⟨r', s', hh, h16, z⟩⟩
    · exact ⟨x, y.1, Or.inl y⟩
    · exact ⟨x, hE_g W C h y.1 x y.2.2, Or.inr (Or.inl ⟨t, h, y⟩)⟩
    · have hr : r' < nr := by omega
      exact ⟨x, hF_g W C hR hr h16 x z, Or.inr (Or.inr ⟨r', s', hr, h16, z⟩)⟩
  · rintro ⟨x, _, y | ⟨t, h, y⟩ | ⟨r', s', hh, h16, z⟩⟩
    · exact ⟨x, Or.inl ⟨x, y⟩⟩
    · exact ⟨x, Or.inr (Or.inl ⟨t, h, y⟩)⟩
    · exact ⟨x, Or.inr (Or.inr ⟨r', s', by omega, h16, z⟩)⟩
end HX
