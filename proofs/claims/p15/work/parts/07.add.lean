/-! a new term: what stands before X writes its ground ids, and behind -/
def hp_C (n c : Nat) (K L R A : Nat → Int32) : Prop := ∀ p, p < 256 → hp_Q n c K L R A p
/-- what a scan for a ground term answers -/
def hp_r (K L R A : Nat → Int32) (k u v r : Int32) : Prop :=
  (∃ g, g < 256 ∧ r = nI g ∧ hp_q K L R A k u v g ∧ ∀ q, q < g → ¬ hp_q K L R A k u v q) ∨ (r = -1 ∧ ∀ q, q < 256 → ¬ hp_q K L R A k u v q)
section HA
variable {n c : Nat} {K L R A M : Nat → Int32} {k a b : Int32}
theorem hr_ex (k u v : Int32) : ∃ r, hp_r K L R A k u v r := by
  by_cases h : ∃ g, g < 256 ∧ hp_q K L R A k u v g
  · obtain ⟨g, ⟨h1, h2⟩, hl⟩ := pk_least (fun g => g < 256 ∧ hp_q K L R A k u v g) h
    exact ⟨nI g, Or.inl ⟨g, h1, rfl, h2, fun q hq z => hl q hq ⟨by omega, z⟩⟩⟩
  · exact ⟨-1, Or.inr ⟨rfl, fun q hq z => h ⟨q, hq, z⟩⟩⟩
/-- the conditions on a new term's fields -/
def hp_N (n c : Nat) (k a b : Int32) : Prop :=
  (c < n ∧ k = 0 ∧ a = nI c ∧ b = -1) ∨ (n ≤ c ∧ ((k = 1 ∧ (a = 0 ∨ a = 1) ∧ b = -1) ∨ (k = 5 ∧ (∃ l, l < c ∧ a = nI l) ∧ b = -1) ∨
    ((k = 2 ∨ k = 3 ∨ k = 4) ∧ (∃ l, l < c ∧ a = nI l) ∧ ∃ r, r < c ∧ b = nI r)))
theorem hw_x (W : hp_W n c K L R) (hc : c < 16) (h : hp_N n c k a b) : hp_W n (c + 1) (upd K c k) (upd L c a) (upd R c b) := by
  refine ⟨W.1, W.2.1, by omega, fun x hx => ?_⟩
  by_cases e : x = c
  · subst e
    unfold hp_T
    rw [pk_us, pk_us, pk_us]
    exact h
  · unfold hp_T
    rw [pk_un e, pk_un e, pk_un e]
    exact W.2.2.2 x (by omega)
theorem hq_x (W : hp_W n c K L R) (C : hp_C n c K L R A) : ∀ p, p < c * 16 → hp_Q n (c + 1) (upd K c k) (upd L c a) (upd R c b) A p := by
  intro p hp
  have w := W.2.2.1
  exact hq_c W (fun h hh => ⟨pk_un (by omega), pk_un (by omega), pk_un (by omega)⟩) (by omega) (fun _ _ => rfl) (C p (by omega))
theorem hq_y (W : hp_W n c K L R) (C : hp_C n c K L R A) : ∀ p, c * 16 ≤ p → p < 256 → A p = -1 := by
  intro p hp h2
  exact (C p h2).2 (fun z => by have := z.1; omega)
theorem hq_z (hc : c < 16) (C : ∀ p, p < c * 16 + 16 → hp_Q n (c + 1) K L R A p) (hz : ∀ p, c * 16 + 16 ≤ p → p < 256 → A p = -1) : hp_C n (c + 1) K L R A := by
  intro p hp
  by_cases h : p < c * 16 + 16
  · exact C p h
  · exact ⟨fun z => by omega, fun _ => hz p (by omega) hp⟩
/-- codes that are none: the places stay as they are -/
theorem hq_k {m m2 : Nat} (C : ∀ p, p < m → hp_Q n c K L R A p) (hz : ∀ p, m ≤ p → p < 256 → A p = -1) (hm : m ≤ m2) (h2 : m2 ≤ 256) (h : ∀ p, m ≤ p → p < m2 → ¬ hp_V n (p % 16)) : ∀ p, p < m2 → hp_Q n c K L R A p := by
  intro p hp
  by_cases e : p < m
  · exact C p e
  · exact ⟨fun _ z => absurd z (h p (by omega) hp), fun _ => hz p (by omega) (by omega)⟩
theorem hm_x (W : hp_W n c K L R) (hc : c < 16) (h : hp_N n c k a b) (hM : hp_M c K L R M) {v : Int32} (hv : v = hp_mv (c + 1) (upd K c k) (upd L c a) (upd R c b) M c) : hp_M (c + 1) (upd K c k) (upd L c a) (upd R c b) (upd M c v) := by
  intro x hx
  have W' := hw_x W hc h
  by_cases e : x = c
  · subst e
    rw [pk_us, hv]
    exact (hm_c (c := x + 1) W' Iff.rfl (fun _ => ⟨rfl, rfl, rfl⟩) (fun y hy => pk_un (by omega))).symm
  · rw [pk_un e, hM x hx]
    by_cases e2 : x < c
    · exact (hm_c (c := c) W' (by omega) (fun _ => ⟨pk_un e, pk_un e, pk_un e⟩) (fun y hy => pk_un (by omega))).symm
    · unfold hp_mv
      rw [if_pos (Or.inl (by omega)), if_pos (Or.inl (by omega))]
end HA
/-! the names of a new object -/
def hp_k0 : Nat → Nat → Int32
  | 0 => fun _ => 0
  | i + 1 => upd (hp_k0 i) i 0
def hp_l0 : Nat → Nat → Int32
  | 0 => fun _ => 0
  | i + 1 => upd (hp_l0 i) i (nI i)
def hp_r0 : Nat → Nat → Int32
  | 0 => fun _ => 0
  | i + 1 => upd (hp_r0 i) i (-1)
theorem hw_0 {n : Nat} (h2 : 2 ≤ n) (h4 : n ≤ 4) : ∀ i, i ≤ n → hp_W n i (hp_k0 i) (hp_l0 i) (hp_r0 i) := by
  intro i
  induction i with
  | zero => exact fun _ => ⟨h2, h4, by omega, fun h hh => absurd hh (Nat.not_lt_zero h)⟩
  | succ i ih => exact fun hi => hw_x (ih (by omega)) (by omega) (Or.inl ⟨by omega, rfl, rfl, rfl⟩)
