/-! what the ranks say in the end -/
section HRK
variable {Rk Z A E K L R r0 r1 rc : Nat → Int32} {n c i j g ne nr : Nat} {D : Nat → Prop}
theorem hu_H2 (hij : i ≤ j) (hj : j < 1000) : hp_H (hp_u Rk j D) i g ↔ hp_H Rk i g := by
  by_cases h : Rk g = -1
  · by_cases d : D g
    · unfold hp_H
      rw [hu_1 h d, h]
      constructor
      · rintro ⟨x, a, b⟩
        have := ha_eq b (by omega) (by omega)
        omega
      · rintro ⟨x, a, b⟩
        exact absurd b.symm (ha_ne1 (by omega))
    · unfold hp_H
      rw [hu_2 d]
  · unfold hp_H
    rw [hu_3 h]
theorem hi_H (R0 : Nat → Int32) (DD : (Nat → Int32) → Nat → Nat → Prop) (i g : Nat) : ∀ d, i + d < 1000 → (hp_H (hp_it R0 DD (i + d)) i g ↔ hp_H (hp_it R0 DD i) i g) := by
  intro d
  induction d with
  | zero => exact fun _ => Iff.rfl
  | succ d ih =>
    intro hd
    exact (hu_H2 (j := i + d) (by omega) (by omega)).trans (ih (by omega))
theorem hD_c {Rk' : Nat → Int32} {i' : Nat} (h : ∀ x, hp_H Rk i x ↔ hp_H Rk' i' x) : hp_D n nr K L R A r0 r1 rc Rk i g → hp_D n nr K L R A r0 r1 rc Rk' i' g := by
  have hm : ∀ x s, hp_m A Rk i x s → hp_m A Rk' i' x s := fun x s z => z.imp id (h _).mp
  rintro ⟨a, b, ⟨e, na, l, r⟩ | ⟨t, t1, t2, t3, t4⟩ | ⟨r, s, a1, a2, a3, a4, a5, a6⟩⟩
  · exact ⟨a, b, Or.inl ⟨e, na, (h _).mp l, r.imp id (h _).mp⟩⟩
  · refine ⟨a, b, Or.inr (Or.inl ⟨t, t1, t2, (h _).mp t3, ?_⟩)⟩
    rcases t4 with z | ⟨z1, z2, z3⟩ | ⟨z1, z2, z3, z4⟩
    · exact Or.inl z
    · exact Or.inr (Or.inl ⟨z1, z2, (h _).mp z3⟩)
    · exact Or.inr (Or.inr ⟨z1, z2, z3, (h _).mp z4⟩)
  · exact ⟨a, b, Or.inr (Or.inr ⟨r, s, a1, a2, a3, a4, hm _ _ a5, hm _ _ a6⟩)⟩
theorem hi_r (R0 : Nat → Int32) (DD : (Nat → Int32) → Nat → Nat → Prop) (h0 : ¬ R0 g = nI (i + 1)) (hi : i < 1000) : ∀ j, j < 1000 → hp_it R0 DD j g = nI (i + 1) → DD (hp_it R0 DD i) i g := by
  intro j
  induction j with
  | zero => exact fun _ z => absurd z h0
  | succ j ih =>
    intro hj z
    have z' : hp_u (hp_it R0 DD j) j (DD (hp_it R0 DD j) j) g = nI (i + 1) := z
    by_cases h : hp_it R0 DD j g = -1
    · by_cases d : DD (hp_it R0 DD j) j g
      · rw [hu_1 h d] at z'
        have e : j + 1 = i + 1 := ha_eq z' (by omega) (by omega)
        have e : j = i := by omega
        rw [← e]; exact d
      · rw [hu_2 d, h] at z'
        exact absurd z'.symm (ha_ne1 (by omega))
    · rw [hu_3 h] at z'
      exact ih (by omega) z'
theorem hi_0 (R0 : Nat → Int32) (DD : (Nat → Int32) → Nat → Nat → Prop) : ∀ j, j < 1000 → hp_it R0 DD j g = nI 0 → R0 g = nI 0 := by
  intro j
  induction j with
  | zero => exact fun _ z => z
  | succ j ih =>
    intro hj z
    have z' : hp_u (hp_it R0 DD j) j (DD (hp_it R0 DD j) j) g = nI 0 := z
    by_cases h : hp_it R0 DD j g = -1
    · by_cases d : DD (hp_it R0 DD j) j g
      · rw [hu_1 h d] at z'
        have := ha_eq z' (by omega) (by omega)
        omega
      · rw [hu_2 d, h] at z'
        exact absurd z'.symm (ha_ne1 (by omega))
    · rw [hu_3 h] at z'
      exact ih (by omega) z'
/-- what has a rank keeps it -/
theorem hi_k (R0 : Nat → Int32) (DD : (Nat → Int32) → Nat → Nat → Prop) (h : ¬ R0 g = -1) : ∀ j, hp_it R0 DD j g = R0 g := by
  intro j
  induction j with
  | zero => rfl
  | succ j ih =>
    show hp_u (hp_it R0 DD j) j (DD (hp_it R0 DD j) j) g = R0 g
    rw [hu_3 (by rw [ih]; exact h), ih]
theorem he_t (W : hp_W n c K L R) (C : hp_C n c K L R A) (hE : ∀ e, e < ne → ∃ h, h < c ∧ E e = nI h) (hzt : ∀ g, 256 ≤ g → Z g = 0) : ∀ e, e ≤ ne → ∀ g, 256 ≤ g → hp_e0 Z A E e g = 0 := by
  intro e
  induction e with
  | zero => exact fun _ => hzt
  | succ e ih =>
    intro he g hg
    obtain ⟨h, x, h1, h2, x1, x2, x3, x4⟩ := he_x W C (hE e (by omega))
    show upd (hp_e0 Z A E e) (hp_i A ((E e).toNatClampNeg * 16)) 0 g = 0
    rw [x4, pk_un (by omega)]
    exact ih (by omega) g hg
theorem he_0 (W : hp_W n c K L R) (C : hp_C n c K L R A) (hE : ∀ e, e < ne → ∃ h, h < c ∧ E e = nI h) (hz : ∀ g, g < 256 → Z g = -1) (hg : g < 256) : ∀ e, e ≤ ne → ¬ hp_e0 Z A E e g = -1 → ∃ e', e' < e ∧ A ((E e').toNatClampNeg * 16) = nI g := by
  intro e
  induction e with
  | zero => exact fun _ z => absurd (hz g hg) z
  | succ e ih =>
    intro he z
    obtain ⟨h, x, h1, h2, x1, x2, x3, x4⟩ := he_x W C (hE e (by omega))
    have z' : ¬ upd (hp_e0 Z A E e) (hp_i A ((E e).toNatClampNeg * 16)) 0 g = -1 := z
    rw [x4] at z'
    by_cases eg : g = x
    · subst eg
      exact ⟨e, by omega, by rw [h2, nI_clamp (by omega)]; exact x2⟩
    · rw [pk_un eg] at z'
      obtain ⟨e', a, b⟩ := ih (by omega) z'
      exact ⟨e', by omega, b⟩
theorem he_1 {e' : Nat} : ∀ e, e' < e → hp_e0 Z A E e (hp_i A ((E e').toNatClampNeg * 16)) = 0 := by
  intro e
  induction e with
  | zero => intro h; omega
  | succ e ih =>
    intro h
    show upd (hp_e0 Z A E e) (hp_i A ((E e).toNatClampNeg * 16)) 0 (hp_i A ((E e').toNatClampNeg * 16)) = 0
    by_cases e1 : hp_i A ((E e').toNatClampNeg * 16) = hp_i A ((E e).toNatClampNeg * 16)
    · rw [e1, pk_us]
    · rw [pk_un e1]
      by_cases e2 : e' = e
      · subst e2
        exact absurd rfl e1
      · exact ih (by omega)
/-- the ranks at rest: ranked ids are ground, the set is closed, each rank has its reason -/
def hp_Y (n nr ne : Nat) (K L R A r0 r1 rc E Z : Nat → Int32) : Prop :=
  hp_G A Z 299 ∧ (∀ g, hp_D n nr K L R A r0 r1 rc Z 300 g → ¬ Z g = -1) ∧
  (∀ g, g < 256 → Z g = nI 0 → ∃ e, e < ne ∧ A ((E e).toNatClampNeg * 16) = nI g) ∧
  (∀ i g, g < 256 → i < 300 → Z g = nI (i + 1) → hp_D n nr K L R A r0 r1 rc Z i g) ∧
  (∀ e, e < ne → Z (hp_i A ((E e).toNatClampNeg * 16)) = 0)
theorem hY_of {f : Nat} (W : hp_W n c K L R) (C : hp_C n c K L R A) (hE : ∀ e, e < ne → ∃ h, h < c ∧ E e = nI h) (hz : ∀ g, g < 256 → Z g = -1) (hzt : ∀ g, 256 ≤ g → Z g = 0) (hf : f ≤ 256)
    (fe1 : hp_k (hp_it (hp_e0 Z A E ne) (hp_D n nr K L R A r0 r1 rc) (f + 1)) 256 = hp_k (hp_it (hp_e0 Z A E ne) (hp_D n nr K L R A r0 r1 rc) f) 256) :
    hp_Y n nr ne K L R A r0 r1 rc E (hp_it (hp_e0 Z A E ne) (hp_D n nr K L R A r0 r1 rc) (f + 1)) := by
  have hG := he_G (Z := Z) W C hE hz ne (Nat.le_refl _)
  have hGi := hi_G (n := n) (nr := nr) (K := K) (L := L) (R := R) (r0 := r0) (r1 := r1) (rc := rc) _ hG
  have ht := he_t W C hE hzt ne (Nat.le_refl _)
  have no := hs_new (Rk := hp_it (hp_e0 Z A E ne) (hp_D n nr K L R A r0 r1 rc) f) (D := hp_D n nr K L R A r0 r1 rc (hp_it (hp_e0 Z A E ne) (hp_D n nr K L R A r0 r1 rc) f) f) (i := f) (by omega) fe1
  have eqf : hp_it (hp_e0 Z A E ne) (hp_D n nr K L R A r0 r1 rc) (f + 1) = hp_it (hp_e0 Z A E ne) (hp_D n nr K L R A r0 r1 rc) f := hs_no no (fun g d => d.1)
  refine ⟨?_, ?_, ?_, ?_, ?_⟩
  · intro g hg
    rcases hGi (f + 1) g hg with a | ⟨a, j, b, e⟩
    · exact Or.inl a
    · exact Or.inr ⟨a, j, by omega, e⟩
  · intro g d z
    rw [eqf] at d z
    refine no g d.1 ⟨z, hD_c (fun x => ?_) d⟩
    constructor
    · rintro ⟨j, a, b⟩
      by_cases hx : x < 256
      · rcases hGi f x hx with y | ⟨_, j', b', e'⟩
        · rw [y] at b
          exact absurd b.symm (ha_ne1 (by omega))
        · exact ⟨j', b', e'⟩
      · refine ⟨0, by omega, ?_⟩
        have t0 := ht x (by omega)
        rw [hi_k _ _ (by rw [t0]; decide), t0]
        rfl
    · rintro ⟨j, a, b⟩
      exact ⟨j, by omega, b⟩
  · intro g hg z
    have z0 := hi_0 _ _ (f + 1) (by omega) z
    exact he_0 W C hE hz hg ne (Nat.le_refl _) (by rw [z0]; exact ha_ne1 (by omega))
  · intro i g hg hi z
    have hb : i ≤ f := by
      rcases hGi (f + 1) g hg with a | ⟨_, j, b, e⟩
      · rw [z] at a
        exact absurd a (ha_ne1 (by omega))
      · have := ha_eq (z.symm.trans e) (by omega) (by omega)
        omega
    have d := hi_r (g := g) (i := i) _ _ (fun y => ?_) (by omega) (f + 1) (by omega) z
    · refine hD_c (fun x => ?_) d
      have := hi_H (hp_e0 Z A E ne) (hp_D n nr K L R A r0 r1 rc) i x (f + 1 - i) (by omega)
      rw [show i + (f + 1 - i) = f + 1 by omega] at this
      exact this.symm
    · rcases hG g hg with a | ⟨_, j, b, e⟩
      · rw [y] at a
        exact absurd a (ha_ne1 (by omega))
      · have := ha_eq (y.symm.trans e) (by omega) (by omega)
        omega
  · intro e he
    have := he_1 (Z := Z) (A := A) (E := E) (e' := e) ne he
    rw [hi_k _ _ (by rw [this]; decide), this]
end HRK
