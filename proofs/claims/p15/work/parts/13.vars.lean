/-! when one term under two codes is the same ground term: they agree on its variables -/
def hp_b0 (m : Int32) : Prop := m = 1 ∨ m = 3
def hp_b1 (m : Int32) : Prop := m = 2 ∨ m = 3
def hp_03 (m : Int32) : Prop := m = 0 ∨ m = 1 ∨ m = 2 ∨ m = 3
theorem hb_or {a b : Int32} (ha : hp_03 a) (hb : hp_03 b) : hp_03 (a ||| b) ∧ (hp_b0 (a ||| b) ↔ hp_b0 a ∨ hp_b0 b) ∧ (hp_b1 (a ||| b) ↔ hp_b1 a ∨ hp_b1 b) := by
  unfold hp_03 hp_b0 hp_b1
  rcases ha with rfl | rfl | rfl | rfl <;> rcases hb with rfl | rfl | rfl | rfl <;> decide
theorem hb_sub {a b : Int32} (ha : hp_03 a) (hb : hp_03 b) (h : a &&& (b ^^^ (-1)) = 0) : (hp_b0 a → hp_b0 b) ∧ (hp_b1 a → hp_b1 b) := by
  unfold hp_b0 hp_b1
  rcases ha with rfl | rfl | rfl | rfl <;> rcases hb with rfl | rfl | rfl | rfl <;> revert h <;> decide
section HV
variable {n c : Nat} {K L R A M : Nat → Int32}
theorem hm_03 (W : hp_W n c K L R) (hM : hp_M c K L R M) : ∀ h, h < 16 → hp_03 (M h) := by
  intro h
  induction h using Nat.strongRecOn with
  | ind h ih =>
    intro hh
    rw [hM h hh]
    unfold hp_mv
    by_cases e0 : c ≤ h ∨ K h = 0
    · rw [if_pos e0]; exact Or.inl rfl
    · rw [if_neg e0]
      by_cases k1 : K h = 1
      · rw [if_pos k1]
        split
        · exact Or.inr (Or.inl rfl)
        · exact Or.inr (Or.inr (Or.inl rfl))
      · rw [if_neg k1]
        obtain ⟨_, ⟨l, hl, el⟩, h5⟩ := hw_na (K := K) (h := h) (fun z => z.elim (fun y => e0 (Or.inr y)) k1) W (Nat.lt_of_not_le (fun z => e0 (Or.inl z)))
        rw [el, nI_clamp (by omega)]
        by_cases k5 : K h = 5
        · rw [if_pos k5]; exact ih l hl (by omega)
        · rw [if_neg k5]
          rcases h5 with h5 | ⟨_, r, hr, er⟩
          · exact absurd h5.1 k5
          · rw [er, nI_clamp (by omega)]
            exact (hb_or (ih l hl (by omega)) (ih r hr (by omega))).1
theorem hc_2 {p q : Nat} (C : hp_C n c K L R A) (hp : p < 256) (hq : q < 256) (vp : p / 16 < c ∧ hp_V n (p % 16)) (vq : q / 16 < c ∧ hp_V n (q % 16)) : A p = A q ↔ hp_S K L R A p q := by
  obtain ⟨x, x1, x2, x3, x4, x5⟩ := (C p hp).1 vp.1 vp.2
  obtain ⟨y, y1, y2, y3, y4, y5⟩ := (C q hq).1 vq.1 vq.2
  constructor
  · intro e
    have : x = y := ha_eq (x2.symm.trans (e.trans y2)) (by omega) (by omega)
    subst this
    exact hs_t x4 (hs_s y4)
  · intro s
    have : x = y := by
      rcases Nat.lt_trichotomy x y with h | h | h
      · exact absurd (hs_t (hs_s s) x4) (y5 x h x3)
      · exact h
      · exact absurd (hs_t s y4) (x5 y h y3)
    rw [x2, y2, this]
/-- canonical places that are the same are one -/
theorem hc_u {p q : Nat} (C : hp_C n c K L R A) (hp : p < 256) (hq : q < 256) (ep : A p = nI p) (eq : A q = nI q) (s : hp_S K L R A p q) : p = q := by
  have := (hc_2 C hp hq (hc_g C hp ep) (hc_g C hq eq)).mpr s
  rw [ep, eq] at this
  exact ha_eq this (by omega) (by omega)
theorem hv_ag (W : hp_W n c K L R) (C : hp_C n c K L R A) (hM : hp_M c K L R M) {s t : Nat} (hs : s < 16) (ht : t < 16) (vs : hp_V n s) (vt : hp_V n t) :
    ∀ h, h < c → (A (h * 16 + s) = A (h * 16 + t) ↔ ((hp_b0 (M h) → s % 4 = t % 4) ∧ (hp_b1 (M h) → s / 4 = t / 4))) := by
  have w := W.2.2.1
  intro h
  induction h using Nat.strongRecOn with
  | ind h ih =>
    intro hh
    have e1 : (h * 16 + s) / 16 = h := by omega
    have e2 : (h * 16 + s) % 16 = s := by omega
    have e3 : (h * 16 + t) / 16 = h := by omega
    have e4 : (h * 16 + t) % 16 = t := by omega
    rw [hc_2 C (by omega) (by omega) ⟨by omega, by rw [e2]; exact vs⟩ ⟨by omega, by rw [e4]; exact vt⟩, hM h (by omega)]
    unfold hp_S hp_mv hp_a hp_n hp_l
    rw [e1, e2, e3, e4]
    by_cases k0 : K h = 0
    · rw [if_pos (Or.inr k0), if_pos k0, if_pos k0]
      exact ⟨fun _ => ⟨fun z => z.elim (fun y => absurd y (by decide)) (fun y => absurd y (by decide)), fun z => z.elim (fun y => absurd y (by decide)) (fun y => absurd y (by decide))⟩, fun _ => Or.inl ⟨Or.inl k0, Or.inl k0, rfl⟩⟩
    · have n0 : ¬ (c ≤ h ∨ K h = 0) := fun z => z.elim (by omega) k0
      rw [if_neg n0, if_neg k0, if_neg k0]
      by_cases k1 : K h = 1
      · rw [if_pos k1]
        have a1 : K h = 0 ∨ K h = 1 := Or.inr k1
        by_cases l0 : L h = 0
        · rw [if_pos l0, if_pos l0, if_pos l0]
          constructor
          · rintro (z | z)
            · exact ⟨fun _ => z.2.2, fun y => y.elim (fun u => absurd u (by decide)) (fun u => absurd u (by decide))⟩
            · exact absurd a1 z.1
          · exact fun z => Or.inl ⟨a1, a1, z.1 (Or.inl rfl)⟩
        · rw [if_neg l0, if_neg l0, if_neg l0]
          constructor
          · rintro (z | z)
            · exact ⟨fun y => y.elim (fun u => absurd u (by decide)) (fun u => absurd u (by decide)), fun _ => z.2.2⟩
            · exact absurd a1 z.1
          · exact fun z => Or.inl ⟨a1, a1, z.2 (Or.inl rfl)⟩
      · rw [if_neg k1]
        have na : ¬ (K h = 0 ∨ K h = 1) := fun z => z.elim k0 k1
        obtain ⟨_, ⟨l, hl, el⟩, h5⟩ := hw_na na W hh
        have il := ih l hl (by omega)
        rw [el, nI_clamp (by omega)]
        by_cases k5 : K h = 5
        · rw [if_pos k5, ← il]
          constructor
          · rintro (z | z)
            · exact absurd z.1 na
            · exact z.2.2.1
          · exact fun z => Or.inr ⟨na, rfl, z, Or.inl k5⟩
        · rw [if_neg k5]
          rcases h5 with h5 | ⟨_, r, hr, er⟩
          · exact absurd h5.1 k5
          · have ir := ih r hr (by omega)
            rw [er, nI_clamp (by omega)]
            obtain ⟨_, o1, o2⟩ := hb_or (hm_03 W hM l (by omega)) (hm_03 W hM r (by omega))
            rw [o1, o2]
            constructor
            · rintro (z | z)
              · exact absurd z.1 na
              · have i1 := il.mp z.2.2.1
                have i2 := ir.mp (z.2.2.2.resolve_left k5)
                exact ⟨fun y => y.elim i1.1 i2.1, fun y => y.elim i1.2 i2.2⟩
            · exact fun z => Or.inr ⟨na, rfl, il.mpr ⟨fun y => z.1 (Or.inl y), fun y => z.2 (Or.inl y)⟩, Or.inr (ir.mpr ⟨fun y => z.1 (Or.inr y), fun y => z.2 (Or.inr y)⟩)⟩
/-- a rule's terms: its conclusion has the premises' variables alone -/
def hp_rv (M : Nat → Int32) (x : Int32) : Int32 := if x = -1 then 0 else M x.toNatClampNeg
theorem hv_rule (W : hp_W n c K L R) (C : hp_C n c K L R A) (hM : hp_M c K L R M) {x y : Int32} {z s t : Nat} {fb fc : Int32} (hx : x = -1 ∨ ∃ h, h < c ∧ x = nI h) (hy : y = -1 ∨ ∃ h, h < c ∧ y = nI h) (hz : z < c)
    (hb : M z &&& ((hp_rv M x ||| hp_rv M y) ^^^ (-1)) = 0) (hs : s < 16) (ht : t < 16) (vs : hp_V n s) (vt : hp_V n t) (s1 : hp_b A x s fb) (s2 : hp_b A y s fc) (t1 : hp_b A x t fb) (t2 : hp_b A y t fc) : A (z * 16 + s) = A (z * 16 + t) := by
  have w := W.2.2.1
  have ag : ∀ x : Int32, (x = -1 ∨ ∃ h, h < c ∧ x = nI h) → ∀ f, hp_b A x s f → hp_b A x t f → hp_03 (hp_rv M x) ∧ (hp_b0 (hp_rv M x) → s % 4 = t % 4) ∧ (hp_b1 (hp_rv M x) → s / 4 = t / 4) := fun x hx f a b => by
    unfold hp_rv
    by_cases e : x = -1
    · rw [if_pos e]
      exact ⟨Or.inl rfl, fun z => z.elim (fun y => absurd y (by decide)) (fun y => absurd y (by decide)), fun z => z.elim (fun y => absurd y (by decide)) (fun y => absurd y (by decide))⟩
    · obtain ⟨h, hh, rfl⟩ := hx.resolve_left e
      rw [if_neg e, nI_clamp (by omega)]
      have a := a.resolve_left e
      have b := b.resolve_left e
      rw [nI_clamp (by omega)] at a b
      exact ⟨hm_03 W hM h (by omega), (hv_ag W C hM hs ht vs vt h hh).mp (a.trans b.symm)⟩
  obtain ⟨p1, p2, p3⟩ := ag x hx fb s1 t1
  obtain ⟨q1, q2, q3⟩ := ag y hy fc s2 t2
  obtain ⟨o, o1, o2⟩ := hb_or p1 q1
  obtain ⟨u1, u2⟩ := hb_sub (hm_03 W hM z (by omega)) o hb
  refine (hv_ag W C hM hs ht vs vt z hz).mpr ⟨fun m => ?_, fun m => ?_⟩
  · exact (o1.mp (u1 m)).elim p2 q2
  · exact (o2.mp (u2 m)).elim p3 q3
end HV
