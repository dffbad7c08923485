section
/-! own numbers -/
theorem ha_ne1 {a : Nat} (h : a < 2 ^ 31) : ¬ nI a = -1 := by
  intro e
  have := nI_pos (n := a) h
  rw [e] at this
  exact this (by decide)
theorem ha_n1lt : (-1 : Int32) < 0 := by decide
theorem ha_eq {a b : Nat} (h : nI a = nI b) (ha : a < 2 ^ 31) (hb : b < 2 ^ 31) : a = b := (nI_eq ha hb).mp h
theorem ha_16 (a : Nat) : nI a * 16 = nI (a * 16) := pk_mul a 16
theorem ha_4 (a : Nat) : 4 * nI a = nI (4 * a) := pk_mul 4 a
theorem ha_d16 {a : Nat} (h : a < 2 ^ 31) : nI a / 16 = nI (a / 16) := pk_div (d := 16) h (by decide) (by decide)
theorem ha_r16 {a : Nat} (h : a < 2 ^ 31) : nI a - nI a / 16 * 16 = nI (a % 16) := pk_rem (d := 16) h (by decide) (by decide)
theorem ha_a15 {a : Nat} (h : a < 2 ^ 31) : nI a &&& 15 = nI (a % 16) := pk_andN (by omega) 4 (by decide)
theorem ha_a3 {a : Nat} (h : a < 2 ^ 31) : nI a &&& 3 = nI (a % 4) := pk_andN (by omega) 2 (by decide)
theorem ha_a255 {a : Nat} (h : a < 256) : nI a &&& 255 = nI a := by
  rw [pk_andN (m := 255) (by omega) 8 (by decide), Nat.mod_eq_of_lt (by omega)]
theorem ha_s4 {a : Nat} (h : a < 2 ^ 31) : nI a >>> ((4 : Int32) &&& 31) = nI (a / 16) := pk_shrN h _ 4 (by decide)
theorem ha_s2 {a : Nat} (h : a < 2 ^ 31) : nI a >>> ((2 : Int32) &&& 31) = nI (a / 4) := pk_shrN h _ 2 (by decide)
end
section
/-! the places and their ground ids, purely: p is handle p / 16 under code p % 16 -/
def hp_V (n s : Nat) : Prop := s % 4 < n ∧ s / 4 < n
def hp_l (L : Nat → Int32) (p : Nat) : Nat := (L (p / 16)).toNatClampNeg * 16 + p % 16
def hp_a (K : Nat → Int32) (p : Nat) : Prop := K (p / 16) = 0 ∨ K (p / 16) = 1
def hp_n (K L : Nat → Int32) (p : Nat) : Nat := if K (p / 16) = 0 then p / 16 else if L (p / 16) = 0 then p % 16 % 4 else p % 16 / 4
def hp_S (K L R A : Nat → Int32) (p q : Nat) : Prop :=
  (hp_a K p ∧ hp_a K q ∧ hp_n K L p = hp_n K L q) ∨
  (¬ hp_a K p ∧ K (p / 16) = K (q / 16) ∧ A (hp_l L p) = A (hp_l L q) ∧ (K (p / 16) = 5 ∨ A (hp_l R p) = A (hp_l R q)))
def hp_T (K L R : Nat → Int32) (h : Nat) : Prop :=
  (K h = 1 ∧ (L h = 0 ∨ L h = 1) ∧ R h = -1) ∨
  (K h = 5 ∧ (∃ l, l < h ∧ L h = nI l) ∧ R h = -1) ∨
  ((K h = 2 ∨ K h = 3 ∨ K h = 4) ∧ (∃ l, l < h ∧ L h = nI l) ∧ ∃ r, r < h ∧ R h = nI r)
def hp_W (n c : Nat) (K L R : Nat → Int32) : Prop :=
  2 ≤ n ∧ n ≤ 4 ∧ c ≤ 16 ∧ ∀ h, h < c → (h < n ∧ K h = 0 ∧ L h = nI h ∧ R h = -1) ∨ (n ≤ h ∧ hp_T K L R h)
def hp_Q (n c : Nat) (K L R A : Nat → Int32) (p : Nat) : Prop :=
  (p / 16 < c → hp_V n (p % 16) → ∃ q, q ≤ p ∧ A p = nI q ∧ hp_V n (q % 16) ∧ hp_S K L R A p q ∧ ∀ q', q' < q → hp_V n (q' % 16) → ¬ hp_S K L R A p q') ∧
  (¬ (p / 16 < c ∧ hp_V n (p % 16)) → A p = -1)
section HC
variable {n c : Nat} {K L R A : Nat → Int32} {p q r : Nat}
theorem hs_r : hp_S K L R A p p := by
  by_cases h : hp_a K p
  · exact Or.inl ⟨h, h, rfl⟩
  · exact Or.inr ⟨h, rfl, rfl, Or.inr rfl⟩
theorem hs_k (h : hp_a K p) (e : K (p / 16) = K (q / 16)) : hp_a K q := by
  unfold hp_a at h ⊢
  rw [← e]
  exact h
theorem hs_s (h : hp_S K L R A p q) : hp_S K L R A q p := by
  rcases h with ⟨a, b, c⟩ | ⟨a, b, c, d⟩
  · exact Or.inl ⟨b, a, c.symm⟩
  · refine Or.inr ⟨fun z => a (hs_k z b.symm), b.symm, c.symm, ?_⟩
    rcases d with d | d
    · exact Or.inl (b.symm.trans d)
    · exact Or.inr d.symm
theorem hs_t (h : hp_S K L R A p q) (g : hp_S K L R A q r) : hp_S K L R A p r := by
  rcases h with ⟨a, b, c⟩ | ⟨a, b, c, d⟩
  · rcases g with ⟨a', b', c'⟩ | ⟨a', b', c', d'⟩
    · exact Or.inl ⟨a, b', c.trans c'⟩
    · exact absurd b a'
  · rcases g with ⟨a', b', c'⟩ | ⟨a', b', c', d'⟩
    · exact absurd (hs_k a' b.symm) a
    · refine Or.inr ⟨a, b.trans b', c.trans c', ?_⟩
      rcases d with d | d
      · exact Or.inl d
      · rcases d' with e | e
        · exact Or.inl (b.trans e)
        · exact Or.inr (d.trans e)
theorem hw_na {h : Nat} (na : ¬ (K h = 0 ∨ K h = 1)) (W : hp_W n c K L R) (hc : h < c) : n ≤ h ∧ (∃ l, l < h ∧ L h = nI l) ∧ ((K h = 5 ∧ R h = -1) ∨ ((K h = 2 ∨ K h = 3 ∨ K h = 4) ∧ ∃ r, r < h ∧ R h = nI r)) := by
  rcases W.2.2.2 h hc with ⟨_, b, _⟩ | ⟨a, b | b | b⟩
  · exact absurd (Or.inl b) na
  · exact absurd (Or.inr b.1) na
  · exact ⟨a, b.2.1, Or.inl ⟨b.1, b.2.2⟩⟩
  · exact ⟨a, b.2.1, Or.inr ⟨b.1, b.2.2⟩⟩
theorem hw_lp (W : hp_W n c K L R) (hp : p / 16 < c) (na : ¬ hp_a K p) : ∃ l, l < p / 16 ∧ L (p / 16) = nI l ∧ hp_l L p = l * 16 + p % 16 := by
  obtain ⟨_, ⟨l, h1, h2⟩, _⟩ := hw_na na W hp
  have := W.2.2.1
  refine ⟨l, h1, h2, ?_⟩
  unfold hp_l
  rw [h2, nI_clamp (by omega)]
theorem hw_rp (W : hp_W n c K L R) (hp : p / 16 < c) (na : ¬ hp_a K p) (n5 : ¬ K (p / 16) = 5) : ∃ l, l < p / 16 ∧ R (p / 16) = nI l ∧ hp_l R p = l * 16 + p % 16 := by
  obtain ⟨_, _, h3⟩ := hw_na na W hp
  have := W.2.2.1
  rcases h3 with h3 | ⟨_, l, h1, h2⟩
  · exact absurd h3.1 n5
  refine ⟨l, h1, h2, ?_⟩
  unfold hp_l
  rw [h2, nI_clamp (by omega)]
theorem hw_c {K' L' R' : Nat → Int32} (W : hp_W n c K L R) (e : ∀ h, h < c → K' h = K h ∧ L' h = L h ∧ R' h = R h) : hp_W n c K' L' R' := by
  refine ⟨W.1, W.2.1, W.2.2.1, fun h hc => ?_⟩
  obtain ⟨e1, e2, e3⟩ := e h hc
  unfold hp_T
  rw [e1, e2, e3]
  exact W.2.2.2 h hc
theorem hs_c {K' L' R' A' : Nat → Int32} (W : hp_W n c K L R) (e : ∀ h, h < c → K' h = K h ∧ L' h = L h ∧ R' h = R h) (hp : p / 16 < c) (hq : q ≤ p) (ea : ∀ i, i < p → A' i = A i) (h : hp_S K L R A p q) : hp_S K' L' R' A' p q := by
  have hq' : q / 16 < c := by omega
  obtain ⟨kp, lp, rp⟩ := e _ hp
  obtain ⟨kq, lq, rq⟩ := e _ hq'
  have el : ∀ x, x / 16 < c → hp_l L' x = hp_l L x := fun x hx => by unfold hp_l; rw [(e _ hx).2.1]
  have er : ∀ x, x / 16 < c → hp_l R' x = hp_l R x := fun x hx => by unfold hp_l; rw [(e _ hx).2.2]
  rcases h with ⟨a, b, d⟩ | ⟨a, b, d, f⟩
  · refine Or.inl ⟨?_, ?_, ?_⟩
    · unfold hp_a at a ⊢
      rw [kp]; exact a
    · unfold hp_a at b ⊢
      rw [kq]; exact b
    · unfold hp_n at d ⊢
      rw [kp, kq, lp, lq]; exact d
  · have aq : ¬ hp_a K q := fun z => a (hs_k z b.symm)
    obtain ⟨l1, h1, _, e1⟩ := hw_lp W hp a
    obtain ⟨l2, h2, _, e2⟩ := hw_lp W hq' aq
    refine Or.inr ⟨?_, by rw [kp, kq]; exact b, ?_, ?_⟩
    · unfold hp_a at a ⊢
      rw [kp]; exact a
    · rw [el p hp, el q hq', ea _ (by rw [e1]; omega), ea _ (by rw [e2]; omega)]
      exact d
    · by_cases h5 : K (p / 16) = 5
      · exact Or.inl (kp.trans h5)
      · rcases f with f | f
        · exact absurd f h5
        · obtain ⟨r1, g1, _, i1⟩ := hw_rp W hp a h5
          obtain ⟨r2, g2, _, i2⟩ := hw_rp W hq' aq (by rw [← b]; exact h5)
          refine Or.inr ?_
          rw [er p hp, er q hq', ea _ (by rw [i1]; omega), ea _ (by rw [i2]; omega)]
          exact f
theorem hq_c {K' L' R' A' : Nat → Int32} {c' : Nat} (W : hp_W n c K L R) (e : ∀ h, h < c → K' h = K h ∧ L' h = L h ∧ R' h = R h) (hc : p / 16 < c' ↔ p / 16 < c) (ea : ∀ i, i ≤ p → A' i = A i) (h : hp_Q n c K L R A p) : hp_Q n c' K' L' R' A' p := by
  refine ⟨fun h1 h2 => ?_, fun h1 => ?_⟩
  · have hp := hc.mp h1
    obtain ⟨q, a, b, d, f, g⟩ := h.1 hp h2
    refine ⟨q, a, by rw [ea p (Nat.le_refl _)]; exact b, d, hs_c W e hp a (fun i hi => ea i (by omega)) f, fun q' h3 h4 h5 => g q' h3 h4 ?_⟩
    exact hs_c (hw_c W e) (fun h hh => ⟨(e h hh).1.symm, (e h hh).2.1.symm, (e h hh).2.2.symm⟩) hp (by omega) (fun i hi => (ea i (by omega)).symm) h5
  · rw [ea p (Nat.le_refl _)]
    exact h.2 (fun z => h1 ⟨hc.mpr z.1, z.2⟩)
/-- what stands below m: the canonical place of a place is its own -/
theorem hc_1 {m : Nat} (C : ∀ p, p < m → hp_Q n c K L R A p) (hp : p < m) (h1 : p / 16 < c) (h2 : hp_V n (p % 16)) : ∃ q, q ≤ p ∧ A p = nI q ∧ q / 16 < c ∧ hp_V n (q % 16) ∧ hp_S K L R A p q ∧ A q = nI q := by
  obtain ⟨q, a, b, d, f, g⟩ := (C p hp).1 h1 h2
  have hq : q / 16 < c := by omega
  refine ⟨q, a, b, hq, d, f, ?_⟩
  obtain ⟨q2, a2, b2, d2, f2, g2⟩ := (C q (by omega)).1 hq d
  by_cases e : q2 < q
  · exact absurd (hs_t f f2) (g q2 e d2)
  · have : q2 = q := by omega
    rw [this] at b2
    exact b2
/-- the next place, given the least place like it -/
theorem hq_s {m : Nat} (W : hp_W n c K L R) (C : ∀ p, p < m → hp_Q n c K L R A p) (h1 : m / 16 < c) (hq : q ≤ m) (hv : hp_V n (q % 16)) (hS : hp_S K L R A m q) (hl : ∀ q', q' < q → hp_V n (q' % 16) → ¬ hp_S K L R A m q') (hvm : hp_V n (m % 16)) : ∀ p, p < m + 1 → hp_Q n c K L R (upd A m (nI q)) p := by
  have ea : ∀ i, i < m → upd A m (nI q) i = A i := fun i hi => pk_un (by omega)
  have e : ∀ h, h < c → K h = K h ∧ L h = L h ∧ R h = R h := fun h _ => ⟨rfl, rfl, rfl⟩
  intro p hp
  by_cases hpm : p < m
  · exact hq_c W e Iff.rfl (fun i hi => ea i (by omega)) (C p hpm)
  · have : p = m := by omega
    subst this
    refine ⟨fun _ _ => ⟨q, hq, pk_us, hv, hs_c W e h1 hq ea hS, fun q' h3 h4 h5 => hl q' h3 h4 ?_⟩, fun z => absurd ⟨h1, hvm⟩ z⟩
    exact hs_c W e h1 (by omega) (fun i hi => (ea i hi).symm) h5
theorem hq_n {m : Nat} (C : ∀ p, p < m → hp_Q n c K L R A p) (ha : A m = -1) (h : ¬ (m / 16 < c ∧ hp_V n (m % 16))) : ∀ p, p < m + 1 → hp_Q n c K L R A p := by
  intro p hp
  by_cases hpm : p < m
  · exact C p hpm
  · have : p = m := by omega
    subst this
    exact ⟨fun a b => absurd ⟨a, b⟩ h, fun _ => ha⟩
/-- an atom's least place is its name's -/
theorem hq_a (W : hp_W n c K L R) (h1 : p / 16 < c) (h2 : hp_V n (p % 16)) (ha : hp_a K p) :
    16 * hp_n K L p ≤ p ∧ hp_V n (16 * hp_n K L p % 16) ∧ hp_S K L R A p (16 * hp_n K L p) ∧ ∀ q', q' < 16 * hp_n K L p → hp_V n (q' % 16) → ¬ hp_S K L R A p q' := by
  have hx : hp_n K L p < n ∧ hp_n K L p ≤ p / 16 := by
    rcases W.2.2.2 _ h1 with ⟨a, b, _⟩ | ⟨a, b⟩
    · unfold hp_n
      rw [if_pos b]
      omega
    · have hk : ¬ K (p / 16) = 0 := by
        rcases b with b | b | ⟨b | b | b, _⟩
        · rw [b.1]; decide
        · rw [b.1]; decide
        · rw [b]; decide
        · rw [b]; decide
        · rw [b]; decide
      unfold hp_n
      rw [if_neg hk]
      have := h2.1
      have := h2.2
      split <;> omega
  have hz : ∀ x, x / 16 < n → x / 16 < c → K (x / 16) = 0 := fun x a b => by
    rcases W.2.2.2 _ b with ⟨_, y, _⟩ | ⟨y, _⟩
    · exact y
    · omega
  have e1 : 16 * hp_n K L p / 16 = hp_n K L p := by omega
  have k1 : K (16 * hp_n K L p / 16) = 0 := hz _ (by omega) (by omega)
  have w1 := W.1
  have nx : ∀ x, K (x / 16) = 0 → hp_n K L x = x / 16 := fun x h => by
    unfold hp_n
    rw [if_pos h]
  refine ⟨by omega, ⟨by omega, by omega⟩, Or.inl ⟨ha, Or.inl k1, ?_⟩, ?_⟩
  · rw [nx _ k1]
    exact e1.symm
  · intro q' hq' _ hS
    have k2 : K (q' / 16) = 0 := hz _ (by omega) (by omega)
    rcases hS with ⟨_, _, z⟩ | ⟨z, _⟩
    · have := nx _ k2
      omega
    · exact z ha
/-- what a scan for a ground term asks of a place -/
def hp_q (K L R A : Nat → Int32) (k u v : Int32) (g : Nat) : Prop := A g = nI g ∧ K (g / 16) = k ∧ A (hp_l L g) = u ∧ (k = 5 ∨ A (hp_l R g) = v)
def hp_f (K L R A : Nat → Int32) (p g : Nat) : Prop := hp_q K L R A (K (p / 16)) (A (hp_l L p)) (A (hp_l R p)) g
theorem hf_S (na : ¬ hp_a K p) (h : hp_f K L R A p q) : hp_S K L R A p q :=
  Or.inr ⟨na, h.2.1.symm, h.2.2.1.symm, h.2.2.2.elim Or.inl (fun z => Or.inr z.symm)⟩
theorem hf_o (na : ¬ hp_a K p) (hA : A q = nI q) (h : hp_S K L R A p q) : hp_f K L R A p q := by
  rcases h with ⟨a, _⟩ | ⟨_, b, d, f⟩
  · exact absurd a na
  · exact ⟨hA, b.symm, d.symm, f.elim Or.inl (fun z => Or.inr z.symm)⟩
theorem hf_t {m : Nat} (C : ∀ p, p < m → hp_Q n c K L R A p) (h1 : m / 16 < c) (na : ¬ hp_a K m) {g : Nat} (hg : ∀ q, q < g → ¬ hp_f K L R A m q) (hq : q < m) (hqg : q < g) (hv : hp_V n (q % 16)) : ¬ hp_S K L R A m q := by
  intro hS
  obtain ⟨q2, a2, _, _, _, s2, e2⟩ := hc_1 C hq (by omega) hv
  exact hg q2 (by omega) (hf_o na e2 (hs_t hS s2))
/-- a scan that finds g first: g is the least place like m; one that finds none: m is -/
theorem hq_f {m g : Nat} (C : ∀ p, p < m → hp_Q n c K L R A p) (hz : ∀ p, m ≤ p → p < 256 → A p = -1) (h1 : m / 16 < c) (na : ¬ hp_a K m) (hg : g < 256) (hf : hp_f K L R A m g) (hl : ∀ q, q < g → ¬ hp_f K L R A m q) :
    g ≤ m ∧ hp_V n (g % 16) ∧ hp_S K L R A m g ∧ ∀ q', q' < g → hp_V n (q' % 16) → ¬ hp_S K L R A m q' := by
  have hgm : g < m := by
    by_cases e : g < m
    · exact e
    · have := hz g (by omega) hg
      rw [hf.1] at this
      exact absurd this (ha_ne1 (by omega))
  have hV : hp_V n (g % 16) := by
    by_cases e : hp_V n (g % 16)
    · exact e
    · have := (C g hgm).2 (fun z => e z.2)
      rw [hf.1] at this
      exact absurd this (ha_ne1 (by omega))
  exact ⟨by omega, hV, hf_S na hf, fun q' a b => hf_t C h1 na hl (by omega) a b⟩
theorem hq_0 {m : Nat} (C : ∀ p, p < m → hp_Q n c K L R A p) (h1 : m / 16 < c) (hm : m < 256) (na : ¬ hp_a K m) (hl : ∀ q, q < 256 → ¬ hp_f K L R A m q) : ∀ q', q' < m → hp_V n (q' % 16) → ¬ hp_S K L R A m q' :=
  fun q' a b => hf_t C h1 na hl a (by omega) b
end HC
end
section
/-! ranks, purely: a set of ground ids learnt in round i over the ranks of the rounds before -/
noncomputable def hp_u (Rk : Nat → Int32) (i : Nat) (D : Nat → Prop) : Nat → Int32 := fun g => @ite _ (Rk g = -1 ∧ D g) (Classical.propDecidable _) (nI (i + 1)) (Rk g)
def hp_H (Rk : Nat → Int32) (i g : Nat) : Prop := ∃ j, j ≤ i ∧ Rk g = nI j
/-- the number of ranked ids below m -/
def hp_k (Rk : Nat → Int32) : Nat → Nat
  | 0 => 0
  | m + 1 => hp_k Rk m + (if Rk m = -1 then 0 else 1)
section HR
variable {Rk : Nat → Int32} {i g m : Nat} {D D' : Nat → Prop}
theorem hu_1 (h : Rk g = -1) (d : D g) : hp_u Rk i D g = nI (i + 1) := if_pos ⟨h, d⟩
theorem hu_2 (h : ¬ D g) : hp_u Rk i D g = Rk g := if_neg (fun z => h z.2)
theorem hu_3 (h : ¬ Rk g = -1) : hp_u Rk i D g = Rk g := if_neg (fun z => h z.1)
theorem hu_e (h : ∀ g, D g ↔ D' g) : hp_u Rk i D = hp_u Rk i D' := by
  have : D = D' := funext fun g => propext (h g)
  rw [this]
theorem hu_0 (h : ∀ g, ¬ D g) : hp_u Rk i D = Rk := funext fun g => hu_2 (h g)
theorem hu_H (hi : i < 1000) : hp_H (hp_u Rk i D) i g ↔ hp_H Rk i g := by
  by_cases h : Rk g = -1
  · by_cases d : D g
    · unfold hp_H
      rw [hu_1 h d, h]
      constructor
      · rintro ⟨j, a, b⟩
        have := ha_eq b (by omega) (by omega)
        omega
      · rintro ⟨j, a, b⟩
        exact absurd b.symm (ha_ne1 (by omega))
    · unfold hp_H
      rw [hu_2 d]
  · unfold hp_H
    rw [hu_3 h]
/-- learning g: already ranked -/
theorem hu_k (hi : i < 1000) (h : ¬ hp_u Rk i D g = -1) : hp_u Rk i (fun x => D x ∨ x = g) = hp_u Rk i D := by
  funext x
  by_cases hx : x = g
  · subst hx
    by_cases h1 : Rk x = -1
    · by_cases d : D x
      · rw [hu_1 h1 d, hu_1 h1 (Or.inl d)]
      · rw [hu_2 d] at h
        exact absurd h1 h
    · rw [hu_3 h1, hu_3 h1]
  · by_cases h1 : Rk x = -1
    · by_cases d : D x
      · rw [hu_1 h1 d, hu_1 h1 (Or.inl d)]
      · rw [hu_2 d, hu_2 (fun z => z.elim d hx)]
    · rw [hu_3 h1, hu_3 h1]
/-- learning g: not yet ranked -/
theorem hu_n (h : hp_u Rk i D g = -1) (hi : i < 1000) : hp_u Rk i (fun x => D x ∨ x = g) = upd (hp_u Rk i D) g (nI (i + 1)) := by
  have hg : Rk g = -1 := by
    by_cases h1 : Rk g = -1
    · exact h1
    · rw [hu_3 h1] at h
      exact h
  funext x
  by_cases hx : x = g
  · subst hx
    rw [pk_us, hu_1 hg (Or.inr rfl)]
  · rw [pk_un hx]
    by_cases h1 : Rk x = -1
    · by_cases d : D x
      · rw [hu_1 h1 d, hu_1 h1 (Or.inl d)]
      · rw [hu_2 d, hu_2 (fun z => z.elim d hx)]
    · rw [hu_3 h1, hu_3 h1]
theorem hk_le : hp_k Rk m ≤ m := by
  induction m with
  | zero => exact Nat.le_refl _
  | succ m ih =>
    show hp_k Rk m + (if Rk m = -1 then 0 else 1) ≤ m + 1
    split <;> omega
theorem hk_c {Rk' : Nat → Int32} (h : ∀ g, g < m → Rk' g = Rk g) : hp_k Rk' m = hp_k Rk m := by
  induction m with
  | zero => rfl
  | succ m ih =>
    show hp_k Rk' m + (if Rk' m = -1 then 0 else 1) = hp_k Rk m + (if Rk m = -1 then 0 else 1)
    rw [ih (fun g hg => h g (by omega)), h m (by omega)]
theorem hk_u {x : Int32} (hg : g < m) (h : Rk g = -1) (hx : ¬ x = -1) : hp_k (upd Rk g x) m = hp_k Rk m + 1 := by
  induction m with
  | zero => omega
  | succ m ih =>
    show hp_k (upd Rk g x) m + (if upd Rk g x m = -1 then 0 else 1) = hp_k Rk m + (if Rk m = -1 then 0 else 1) + 1
    by_cases e : g = m
    · subst e
      rw [hk_c (m := g) (Rk := Rk) (fun y hy => pk_un (by omega)), pk_us, if_neg hx, if_pos h]
    · rw [ih (by omega), pk_un (by omega)]
      omega
theorem hk_m {Rk' : Nat → Int32} (h : ∀ g, g < m → Rk' g = -1 → Rk g = -1) : hp_k Rk m ≤ hp_k Rk' m := by
  induction m with
  | zero => exact Nat.le_refl _
  | succ m ih =>
    show hp_k Rk m + (if Rk m = -1 then 0 else 1) ≤ hp_k Rk' m + (if Rk' m = -1 then 0 else 1)
    have := ih (fun g hg => h g (by omega))
    by_cases e : Rk' m = -1
    · rw [if_pos e, if_pos (h m (by omega) e)]
      omega
    · rw [if_neg e]
      split <;> omega
/-- equal counts: nothing is new -/
theorem hk_e {Rk' : Nat → Int32} (h : ∀ g, g < m → Rk' g = -1 → Rk g = -1) (he : hp_k Rk' m = hp_k Rk m) : ∀ g, g < m → Rk g = -1 → Rk' g = -1 := by
  induction m with
  | zero => intro g hg; omega
  | succ m ih =>
    have h1 : hp_k Rk m ≤ hp_k Rk' m := hk_m (fun g hg => h g (by omega))
    have he' : hp_k Rk' m + (if Rk' m = -1 then 0 else 1) = hp_k Rk m + (if Rk m = -1 then 0 else 1) := he
    by_cases e : Rk' m = -1
    · rw [if_pos e, if_pos (h m (by omega) e)] at he'
      intro g hg hR
      by_cases hgm : g = m
      · rw [hgm]; exact e
      · exact ih (fun g hg => h g (by omega)) (by omega) g (by omega) hR
    · rw [if_neg e] at he'
      by_cases e2 : Rk m = -1
      · rw [if_pos e2] at he'
        omega
      · rw [if_neg e2] at he'
        intro g hg hR
        by_cases hgm : g = m
        · rw [hgm] at hR
          exact absurd hR e2
        · exact ih (fun g hg => h g (by omega)) (by omega) g (by omega) hR
theorem hu_m (hi : i < 1000) : hp_u Rk i D g = -1 → Rk g = -1 := by
  intro h
  by_cases h1 : Rk g = -1
  · exact h1
  · rw [hu_3 h1] at h
    exact h
theorem hu_s (hi : i < 1000) (hD : ∀ g, D g → g < 256) (he : hp_k (hp_u Rk i D) 256 = hp_k Rk 256) : hp_u Rk i D = Rk := by
  have h := hk_e (m := 256) (Rk := Rk) (Rk' := hp_u Rk i D) (fun g _ => hu_m hi) he
  funext g
  by_cases h1 : Rk g = -1
  · by_cases d : D g
    · rw [h g (hD g d) h1, h1]
    · exact hu_2 d
  · exact hu_3 h1
end HR
/-- the rounds: what round i derives is a set over the ranks at its head -/
noncomputable def hp_it (R0 : Nat → Int32) (D : (Nat → Int32) → Nat → Nat → Prop) : Nat → Nat → Int32
  | 0 => R0
  | i + 1 => hp_u (hp_it R0 D i) i (D (hp_it R0 D i) i)
theorem hp_stop (R0 : Nat → Int32) (D : (Nat → Int32) → Nat → Nat → Prop) (hD : ∀ Rk i g, D Rk i g → g < 256) :
    ∃ f, f ≤ 256 ∧ hp_k (hp_it R0 D (f + 1)) 256 = hp_k (hp_it R0 D f) 256 ∧ ∀ j, j < f → hp_k (hp_it R0 D j) 256 < hp_k (hp_it R0 D (j + 1)) 256 := by
  have mono : ∀ j, j < 1000 → hp_k (hp_it R0 D j) 256 ≤ hp_k (hp_it R0 D (j + 1)) 256 := fun j hj =>
    hk_m (fun g _ h => hu_m (Rk := hp_it R0 D j) (D := D (hp_it R0 D j) j) hj h)
  have ex : ∃ f, f ≤ 256 ∧ hp_k (hp_it R0 D (f + 1)) 256 = hp_k (hp_it R0 D f) 256 := by
    apply Classical.byContradiction
    intro no
    have gr : ∀ j, j ≤ 257 → j ≤ hp_k (hp_it R0 D j) 256 := by
      intro j
      induction j with
      | zero => intro _; omega
      | succ j ih =>
        intro hj
        have h1 := ih (by omega)
        have h2 := mono j (by omega)
        have h3 : ¬ hp_k (hp_it R0 D (j + 1)) 256 = hp_k (hp_it R0 D j) 256 := fun z => no ⟨j, by omega, z⟩
        omega
    have h1 := gr 257 (by omega)
    have h2 : hp_k (hp_it R0 D 257) 256 ≤ 256 := hk_le
    omega
  obtain ⟨f, ⟨a, b⟩, l⟩ := pk_least (fun f => f ≤ 256 ∧ hp_k (hp_it R0 D (f + 1)) 256 = hp_k (hp_it R0 D f) 256) ex
  refine ⟨f, a, b, fun j hj => ?_⟩
  have h1 := mono j (by omega)
  have h2 : ¬ hp_k (hp_it R0 D (j + 1)) 256 = hp_k (hp_it R0 D j) 256 := fun z => l j hj ⟨by omega, z⟩
  omega
end
section
/-! what a round derives -/
def hp_i (A : Nat → Int32) (p : Nat) : Nat := (A p).toNatClampNeg
def hp_E (K L R A Rk : Nat → Int32) (i t g : Nat) : Prop :=
  (K (t / 16) = 2 ∧ (A (hp_l L t) = nI g ∨ A (hp_l R t) = nI g)) ∨
  (K (t / 16) = 3 ∧ A (hp_l L t) = nI g ∧ hp_H Rk i (hp_i A (hp_l R t))) ∨
  (K (t / 16) = 4 ∧ A (hp_l L t) = nI g ∧ K (hp_i A (hp_l R t) / 16) = 5 ∧ hp_H Rk i (hp_i A (hp_l L (hp_i A (hp_l R t)))))
def hp_m (A Rk : Nat → Int32) (i : Nat) (x : Int32) (s : Nat) : Prop := x = -1 ∨ hp_H Rk i (hp_i A (x.toNatClampNeg * 16 + s))
def hp_F (n : Nat) (A r0 r1 rc Rk : Nat → Int32) (i r s g : Nat) : Prop :=
  hp_V n s ∧ A ((rc r).toNatClampNeg * 16 + s) = nI g ∧ hp_m A Rk i (r0 r) s ∧ hp_m A Rk i (r1 r) s
def hp_c (K L R A Rk : Nat → Int32) (i g : Nat) : Prop :=
  A g = nI g ∧ ¬ hp_a K g ∧ hp_H Rk i (hp_i A (hp_l L g)) ∧ (K (g / 16) = 5 ∨ hp_H Rk i (hp_i A (hp_l R g)))
def hp_D (n nr : Nat) (K L R A r0 r1 rc Rk : Nat → Int32) (i g : Nat) : Prop :=
  g < 256 ∧ A g = nI g ∧ (hp_c K L R A Rk i g ∨ (∃ t, t < 256 ∧ A t = nI t ∧ hp_H Rk i t ∧ hp_E K L R A Rk i t g) ∨
    ∃ r s, r < nr ∧ s < 16 ∧ hp_F n A r0 r1 rc Rk i r s g)
section HD
variable {n c : Nat} {K L R A Rk : Nat → Int32} {t i : Nat}
theorem hc_v (C : ∀ p, p < 256 → hp_Q n c K L R A p) (ht : t < 256) (h : ¬ A t = -1) : t / 16 < c ∧ hp_V n (t % 16) := by
  by_cases e : t / 16 < c ∧ hp_V n (t % 16)
  · exact e
  · exact absurd ((C t ht).2 e) h
theorem hc_g (C : ∀ p, p < 256 → hp_Q n c K L R A p) (ht : t < 256) (h : A t = nI t) : t / 16 < c ∧ hp_V n (t % 16) :=
  hc_v C ht (by rw [h]; exact ha_ne1 (by omega))
theorem hc_p (W : hp_W n c K L R) (C : ∀ p, p < 256 → hp_Q n c K L R A p) (h : t / 16 < c ∧ hp_V n (t % 16)) : ∃ x, x < 256 ∧ A t = nI x ∧ A x = nI x ∧ hp_i A t = x := by
  have := W.2.2.1
  obtain ⟨q, a, b, _, _, _, g⟩ := hc_1 C (show t < 256 by omega) h.1 h.2
  refine ⟨q, by omega, b, g, ?_⟩
  unfold hp_i
  rw [b, nI_clamp (by omega)]
theorem hc_l (W : hp_W n c K L R) (C : ∀ p, p < 256 → hp_Q n c K L R A p) (h : t / 16 < c ∧ hp_V n (t % 16)) (na : ¬ hp_a K t) :
    ∃ l x, l < 16 ∧ L (t / 16) = nI l ∧ hp_l L t = l * 16 + t % 16 ∧ x < 256 ∧ A (hp_l L t) = nI x ∧ A x = nI x ∧ hp_i A (hp_l L t) = x := by
  have := W.2.2.1
  obtain ⟨l, a, b, e⟩ := hw_lp W h.1 na
  have h1 : hp_l L t / 16 = l := by omega
  have h2 : hp_l L t % 16 = t % 16 := by omega
  obtain ⟨x, x1, x2, x3, x4⟩ := hc_p W C (t := hp_l L t) ⟨by omega, by rw [h2]; exact h.2⟩
  exact ⟨l, x, by omega, b, e, x1, x2, x3, x4⟩
theorem hc_r (W : hp_W n c K L R) (C : ∀ p, p < 256 → hp_Q n c K L R A p) (h : t / 16 < c ∧ hp_V n (t % 16)) (na : ¬ hp_a K t) (n5 : ¬ K (t / 16) = 5) :
    ∃ l x, l < 16 ∧ R (t / 16) = nI l ∧ hp_l R t = l * 16 + t % 16 ∧ x < 256 ∧ A (hp_l R t) = nI x ∧ A x = nI x ∧ hp_i A (hp_l R t) = x := by
  have := W.2.2.1
  obtain ⟨l, a, b, e⟩ := hw_rp W h.1 na n5
  have h1 : hp_l R t / 16 = l := by omega
  have h2 : hp_l R t % 16 = t % 16 := by omega
  obtain ⟨x, x1, x2, x3, x4⟩ := hc_p W C (t := hp_l R t) ⟨by omega, by rw [h2]; exact h.2⟩
  exact ⟨l, x, by omega, b, e, x1, x2, x3, x4⟩
theorem hn_2 (h : K (t / 16) = 2) : ¬ hp_a K t := by
  unfold hp_a
  rw [h]
  decide
theorem hn_3 (h : K (t / 16) = 3) : ¬ hp_a K t := by
  unfold hp_a
  rw [h]
  decide
theorem hn_4 (h : K (t / 16) = 4) : ¬ hp_a K t := by
  unfold hp_a
  rw [h]
  decide
theorem hn_5 (h : K (t / 16) = 5) : ¬ hp_a K t := by
  unfold hp_a
  rw [h]
  decide
/-- all ranked ids are ground ids, their ranks at most i -/
def hp_G (A Rk : Nat → Int32) (i : Nat) : Prop := ∀ g, g < 256 → Rk g = -1 ∨ (A g = nI g ∧ ∃ j, j ≤ i ∧ Rk g = nI j)
theorem hg_s {D : Nat → Prop} (hD : ∀ g, D g → A g = nI g) (h : hp_G A Rk i) : hp_G A (hp_u Rk i D) (i + 1) := by
  intro g hg
  by_cases h1 : Rk g = -1
  · by_cases d : D g
    · exact Or.inr ⟨hD g d, i + 1, Nat.le_refl _, hu_1 h1 d⟩
    · rw [hu_2 d]
      exact Or.inl h1
  · rw [hu_3 h1]
    rcases h g hg with a | ⟨a, j, b, e⟩
    · exact Or.inl a
    · exact Or.inr ⟨a, j, by omega, e⟩
end HD
end
section
/-! the set that X has learnt in the midst of a round -/
def hp_X (n : Nat) (K L R A r0 r1 rc Rk : Nat → Int32) (i mc mt r s g : Nat) : Prop :=
  g < 256 ∧ ((g < mc ∧ hp_c K L R A Rk i g) ∨ (∃ t, t < mt ∧ A t = nI t ∧ hp_H Rk i t ∧ hp_E K L R A Rk i t g) ∨
    ∃ r' s', (r' < r ∨ (r' = r ∧ s' < s)) ∧ s' < 16 ∧ hp_F n A r0 r1 rc Rk i r' s' g)
section HX
variable {n c nr : Nat} {K L R A r0 r1 rc Rk : Nat → Int32} {i mc mt r s g a b : Nat}
theorem hx_0 : ¬ hp_X n K L R A r0 r1 rc Rk i 0 0 0 0 g := by
  rintro ⟨_, ⟨h, _⟩ | ⟨t, h, _⟩ | ⟨r', s', h, _⟩⟩
  · omega
  · omega
  · omega
theorem hx_c1 (hm : mc < 256) (h : hp_c K L R A Rk i mc) : hp_X n K L R A r0 r1 rc Rk i (mc + 1) mt r s g ↔ hp_X n K L R A r0 r1 rc Rk i mc mt r s g ∨ g = mc := by
  constructor
  · rintro ⟨x, ⟨y, z⟩ | y⟩
    · by_cases e : g = mc
      · exact Or.inr e
      · exact Or.inl ⟨x, Or.inl ⟨by omega, z⟩⟩
    · exact Or.inl ⟨x, Or.inr y⟩
  · rintro (⟨x, ⟨y, z⟩ | y⟩ | e)
    · exact ⟨x, Or.inl ⟨by omega, z⟩⟩
    · exact ⟨x, Or.inr y⟩
    · subst e
      exact ⟨hm, Or.inl ⟨by omega, h⟩⟩
theorem hx_c0 (h : ¬ hp_c K L R A Rk i mc) : hp_X n K L R A r0 r1 rc Rk i (mc + 1) mt r s g ↔ hp_X n K L R A r0 r1 rc Rk i mc mt r s g := by
  constructor
  · rintro ⟨x, ⟨y, z⟩ | y⟩
    · by_cases e : g = mc
      · subst e
        exact absurd z h
      · exact ⟨x, Or.inl ⟨by omega, z⟩⟩
    · exact ⟨x, Or.inr y⟩
  · rintro ⟨x, ⟨y, z⟩ | y⟩
    · exact ⟨x, Or.inl ⟨by omega, z⟩⟩
    · exact ⟨x, Or.inr y⟩
/-- the next t of takeApart: what it gives is P -/
theorem hx_t (P : Nat → Prop) (hP : ∀ g, g < 256 → ((A mt = nI mt ∧ hp_H Rk i mt ∧ hp_E K L R A Rk i mt g) ↔ P g)) (hb : ∀ g, P g → g < 256) : hp_X n K L R A r0 r1 rc Rk i mc (mt + 1) r s g ↔ hp_X n K L R A r0 r1 rc Rk i mc mt r s g ∨ P g := by
  constructor
  · rintro ⟨x, y | ⟨t, h, z⟩ | y⟩
    · exact Or.inl ⟨x, Or.inl y⟩
    · by_cases e : t = mt
      · subst e
        exact Or.inr ((hP g x).mp z)
      · exact Or.inl ⟨x, Or.inr (Or.inl ⟨t, by omega, z⟩)⟩
    · exact Or.inl ⟨x, Or.inr (Or.inr y)⟩
  · rintro (⟨x, y | ⟨t, h, z⟩ | y⟩ | e)
    · exact ⟨x, Or.inl y⟩
    · exact ⟨x, Or.inr (Or.inl ⟨t, by omega, z⟩)⟩
    · exact ⟨x, Or.inr (Or.inr y)⟩
    · exact ⟨hb g e, Or.inr (Or.inl ⟨mt, by omega, (hP g (hb g e)).mpr e⟩)⟩
theorem hx_t0 (h : ∀ g, g < 256 → ¬ (A mt = nI mt ∧ hp_H Rk i mt ∧ hp_E K L R A Rk i mt g)) : hp_X n K L R A r0 r1 rc Rk i mc (mt + 1) r s g ↔ hp_X n K L R A r0 r1 rc Rk i mc mt r s g := by
  have := hx_t (n := n) (K := K) (L := L) (R := R) (A := A) (r0 := r0) (r1 := r1) (rc := rc) (Rk := Rk) (i := i) (mc := mc) (mt := mt) (r := r) (s := s) (g := g) (fun _ => False) (fun g hg => ⟨fun z => h g hg z, fun z => z.elim⟩) (fun g z => z.elim)
  rw [this]
  exact ⟨fun z => z.elim id (fun y => y.elim), Or.inl⟩
/-- the next code of a rule: what it gives is P -/
theorem hx_r (P : Nat → Prop) (hs : s < 16) (hP : ∀ g, g < 256 → (hp_F n A r0 r1 rc Rk i r s g ↔ P g)) (hb : ∀ g, P g → g < 256) : hp_X n K L R A r0 r1 rc Rk i mc mt r (s + 1) g ↔ hp_X n K L R A r0 r1 rc Rk i mc mt r s g ∨ P g := by
  constructor
  · rintro ⟨x, y | y | ⟨r', s', h, h16, z⟩⟩
    · exact Or.inl ⟨x, Or.inl y⟩
    · exact Or.inl ⟨x, Or.inr (Or.inl y)⟩
    · by_cases e : r' = r ∧ s' = s
      · obtain ⟨rfl, rfl⟩ := e
        exact Or.inr ((hP g x).mp z)
      · exact Or.inl ⟨x, Or.inr (Or.inr ⟨r', s', by omega, h16, z⟩)⟩
  · rintro (⟨x, y | y | ⟨r', s', h, h16, z⟩⟩ | e)
    · exact ⟨x, Or.inl y⟩
    · exact ⟨x, Or.inr (Or.inl y)⟩
    · exact ⟨x, Or.inr (Or.inr ⟨r', s', by omega, h16, z⟩)⟩
    · exact ⟨hb g e, Or.inr (Or.inr ⟨r, s, by omega, hs, (hP g (hb g e)).mpr e⟩)⟩
/-- codes that are none add nothing -/
theorem hx_rs {s2 : Nat} (h1 : s ≤ s2) (h : ∀ x, s ≤ x → x < s2 → x < 16 → ¬ hp_V n x) : hp_X n K L R A r0 r1 rc Rk i mc mt r s2 g ↔ hp_X n K L R A r0 r1 rc Rk i mc mt r s g := by
  constructor
  · rintro ⟨x, y | y | ⟨r', s', hh, h16, z⟩⟩
    · exact ⟨x, Or.inl y⟩
    · exact ⟨x, Or.inr (Or.inl y)⟩
    · by_cases e : r' = r ∧ s ≤ s'
      · exact absurd z.1 (h s' e.2 (by omega) h16)
      · exact ⟨x, Or.inr (Or.inr ⟨r', s', by omega, h16, z⟩)⟩
  · rintro ⟨x, y | y | ⟨r', s', hh, h16, z⟩⟩
    · exact ⟨x, Or.inl y⟩
    · exact ⟨x, Or.inr (Or.inl y)⟩
    · exact ⟨x, Or.inr (Or.inr ⟨r', s', by omega, h16, z⟩)⟩
theorem hx_rn (h : ∀ x, s ≤ x → x < 16 → ¬ hp_V n x) : hp_X n K L R A r0 r1 rc Rk i mc mt (r + 1) 0 g ↔ hp_X n K L R A r0 r1 rc Rk i mc mt r s g := by
  constructor
  · rintro ⟨x, y | y | ⟨r', s', hh, h16, z⟩⟩
    · exact ⟨x, Or.inl y⟩
    · exact ⟨x, Or.inr (Or.inl y)⟩
    · by_cases e : r' = r ∧ s ≤ s'
      · exact absurd z.1 (h s' e.2 h16)
      · exact ⟨x, Or.inr (Or.inr ⟨r', s', by omega, h16, z⟩)⟩
  · rintro ⟨x, y | y | ⟨r', s', hh, h16, z⟩⟩
    · exact ⟨x, Or.inl y⟩
    · exact ⟨x, Or.inr (Or.inl y)⟩
    · exact ⟨x, Or.inr (Or.inr ⟨r', s', by omega, h16, z⟩)⟩
/-- the rules' terms are handles -/
def hp_R (c nr : Nat) (r0 r1 rc : Nat → Int32) : Prop := ∀ r, r < nr → (r0 r = -1 ∨ ∃ h, h < c ∧ r0 r = nI h) ∧ (r1 r = -1 ∨ ∃ h, h < c ∧ r1 r = nI h) ∧ ∃ h, h < c ∧ rc r = nI h
theorem hE_g (W : hp_W n c K L R) (C : ∀ p, p < 256 → hp_Q n c K L R A p) {t : Nat} (ht : t < 256) (hA : A t = nI t) (hg : g < 256) (h : hp_E K L R A Rk i t g) : A g = nI g := by
  have hv := hc_g C ht hA
  have key : ∀ na : ¬ hp_a K t, A (hp_l L t) = nI g → A g = nI g := fun na e => by
    obtain ⟨l, x, _, _, _, x1, x2, x3, _⟩ := hc_l W C hv na
    have := ha_eq (x2.symm.trans e) (by omega) (by omega)
    subst this
    exact x3
  rcases h with ⟨k, e | e⟩ | ⟨k, e, _⟩ | ⟨k, e, _⟩
  · exact key (hn_2 k) e
  · obtain ⟨l, x, _, _, _, x1, x2, x3, _⟩ := hc_r W C hv (hn_2 k) (by rw [k]; decide)
    have := ha_eq (x2.symm.trans e) (by omega) (by omega)
    subst this
    exact x3
  · exact key (hn_3 k) e
  · exact key (hn_4 k) e
theorem hF_g (W : hp_W n c K L R) (C : ∀ p, p < 256 → hp_Q n c K L R A p) (hR : hp_R c nr r0 r1 rc) (hr : r < nr) (hs : s < 16) (hg : g < 256) (h : hp_F n A r0 r1 rc Rk i r s g) : A g = nI g := by
  obtain ⟨h0, hh, e⟩ := (hR r hr).2.2
  have w := W.2.2.1
  have h2 := h.2.1
  rw [e, nI_clamp (by omega)] at h2
  have e1 : (h0 * 16 + s) / 16 = h0 := by omega
  have e2 : (h0 * 16 + s) % 16 = s := by omega
  obtain ⟨x, x1, x2, x3, _⟩ := hc_p W C (t := h0 * 16 + s) ⟨by omega, by rw [e2]; exact h.1⟩
  have := ha_eq (x2.symm.trans h2) (by omega) (by omega)
  subst this
  exact x3
theorem hx_D (W : hp_W n c K L R) (C : ∀ p, p < 256 → hp_Q n c K L R A p) (hR : hp_R c nr r0 r1 rc) : hp_X n K L R A r0 r1 rc Rk i 256 256 nr 0 g ↔ hp_D n nr K L R A r0 r1 rc Rk i g := by
  constructor
  · rintro ⟨x, ⟨_, y⟩ | ⟨t, h, y⟩ | ⟨r', s', hh, h16, z⟩⟩
    · exact ⟨x, y.1, Or.inl y⟩
    · exact ⟨x, hE_g W C h y.1 x y.2.2, Or.inr (Or.inl ⟨t, h, y⟩)⟩
    · have hr : r' < nr := by omega
      exact ⟨x, hF_g W C hR hr h16 x z, Or.inr (Or.inr ⟨r', s', hr, h16, z⟩)⟩
  · rintro ⟨x, _, y | ⟨t, h, y⟩ | ⟨r', s', hh, h16, z⟩⟩
    · exact ⟨x, Or.inl ⟨x, y⟩⟩
    · exact ⟨x, Or.inr (Or.inl ⟨t, h, y⟩)⟩
    · exact ⟨x, Or.inr (Or.inr ⟨r', s', by omega, h16, z⟩)⟩
end HX
end
section
/-! the variables in a term's tree -/
def hp_mv (c : Nat) (K L R M : Nat → Int32) (h : Nat) : Int32 :=
  if c ≤ h ∨ K h = 0 then 0 else if K h = 1 then (if L h = 0 then 1 else 2) else if K h = 5 then M (L h).toNatClampNeg else M (L h).toNatClampNeg ||| M (R h).toNatClampNeg
def hp_M (c : Nat) (K L R M : Nat → Int32) : Prop := ∀ h, h < 16 → M h = hp_mv c K L R M h
section HM
variable {n c : Nat} {K L R M : Nat → Int32} {h : Nat}
theorem hm_c {c' : Nat} {K' L' R' M' : Nat → Int32} (W : hp_W n c' K' L' R') (hc : c ≤ h ↔ c' ≤ h) (e : h < c' → K' h = K h ∧ L' h = L h ∧ R' h = R h) (em : ∀ x, x < h → M' x = M x) : hp_mv c' K' L' R' M' h = hp_mv c K L R M h := by
  have w := W.2.2.1
  unfold hp_mv
  by_cases hh : c' ≤ h
  · rw [if_pos (Or.inl hh), if_pos (Or.inl (hc.mpr hh))]
  · obtain ⟨e1, e2, e3⟩ := e (by omega)
    have hh' : ¬ c ≤ h := fun z => hh (hc.mp z)
    by_cases k0 : K h = 0
    · rw [if_pos (Or.inr k0), if_pos (Or.inr (e1.trans k0))]
    · have n1 : ¬ (c ≤ h ∨ K h = 0) := fun z => z.elim hh' k0
      have n2 : ¬ (c' ≤ h ∨ K' h = 0) := fun z => z.elim hh (by rw [e1]; exact k0)
      rw [if_neg n1, if_neg n2, e1, e2, e3]
      by_cases k1 : K h = 1
      · rw [if_pos k1, if_pos k1]
      · rw [if_neg k1, if_neg k1]
        obtain ⟨_, ⟨l, hl, el⟩, h5⟩ := hw_na (K := K') (h := h) (by rw [e1]; exact fun z => z.elim k0 k1) W (by omega)
        rw [e2] at el
        by_cases k5 : K h = 5
        · rw [if_pos k5, if_pos k5, el, nI_clamp (by omega), em l hl]
        · rw [if_neg k5, if_neg k5]
          rcases h5 with h5 | ⟨_, r, hr, er⟩
          · exact absurd (e1.symm.trans h5.1) k5
          · rw [e3] at er
            rw [el, er, nI_clamp (by omega), nI_clamp (by omega), em l hl, em r hr]
end HM
end
section
/-! a new term: what stands before X writes its ground ids, and behind -/
def hp_C (n c : Nat) (K L R A : Nat → Int32) : Prop := ∀ p, p < 256 → hp_Q n c K L R A p
/-- what a scan for a ground term answers -/
def hp_r (K L R A : Nat → Int32) (k u v r : Int32) : Prop :=
  (∃ g, g < 256 ∧ r = nI g ∧ hp_q K L R A k u v g ∧ ∀ q, q < g → ¬ hp_q K L R A k u v q) ∨ (r = -1 ∧ ∀ q, q < 256 → ¬ hp_q K L R A k u v q)
section HA
variable {n c : Nat} {K L R A M : Nat → Int32} {k a b : Int32}
theorem hr_ex (k u v : Int32) : ∃ r, hp_r K L R A k u v r := by
  by_cases h : ∃ g, g < 256 ∧ hp_q K L R A k u v g
  · obtain ⟨g, ⟨h1, h2⟩, hl⟩ := pk_least (fun g => g < 256 ∧ hp_q K L R A k u v g) h
    exact ⟨nI g, Or.inl ⟨g, h1, rfl, h2, fun q hq z => hl q hq ⟨by omega, z⟩⟩⟩
  · exact ⟨-1, Or.inr ⟨rfl, fun q hq z => h ⟨q, hq, z⟩⟩⟩
/-- the conditions on a new term's fields -/
def hp_N (n c : Nat) (k a b : Int32) : Prop :=
  (c < n ∧ k = 0 ∧ a = nI c ∧ b = -1) ∨ (n ≤ c ∧ ((k = 1 ∧ (a = 0 ∨ a = 1) ∧ b = -1) ∨ (k = 5 ∧ (∃ l, l < c ∧ a = nI l) ∧ b = -1) ∨
    ((k = 2 ∨ k = 3 ∨ k = 4) ∧ (∃ l, l < c ∧ a = nI l) ∧ ∃ r, r < c ∧ b = nI r)))
theorem hw_x (W : hp_W n c K L R) (hc : c < 16) (h : hp_N n c k a b) : hp_W n (c + 1) (upd K c k) (upd L c a) (upd R c b) := by
  refine ⟨W.1, W.2.1, by omega, fun x hx => ?_⟩
  by_cases e : x = c
  · subst e
    unfold hp_T
    rw [pk_us, pk_us, pk_us]
    exact h
  · unfold hp_T
    rw [pk_un e, pk_un e, pk_un e]
    exact W.2.2.2 x (by omega)
theorem hq_x (W : hp_W n c K L R) (C : hp_C n c K L R A) : ∀ p, p < c * 16 → hp_Q n (c + 1) (upd K c k) (upd L c a) (upd R c b) A p := by
  intro p hp
  have w := W.2.2.1
  exact hq_c W (fun h hh => ⟨pk_un (by omega), pk_un (by omega), pk_un (by omega)⟩) (by omega) (fun _ _ => rfl) (C p (by omega))
theorem hq_y (W : hp_W n c K L R) (C : hp_C n c K L R A) : ∀ p, c * 16 ≤ p → p < 256 → A p = -1 := by
  intro p hp h2
  exact (C p h2).2 (fun z => by have := z.1; omega)
theorem hq_z (hc : c < 16) (C : ∀ p, p < c * 16 + 16 → hp_Q n (c + 1) K L R A p) (hz : ∀ p, c * 16 + 16 ≤ p → p < 256 → A p = -1) : hp_C n (c + 1) K L R A := by
  intro p hp
  by_cases h : p < c * 16 + 16
  · exact C p h
  · exact ⟨fun z => by omega, fun _ => hz p (by omega) hp⟩
/-- codes that are none: the places stay as they are -/
theorem hq_k {m m2 : Nat} (C : ∀ p, p < m → hp_Q n c K L R A p) (hz : ∀ p, m ≤ p → p < 256 → A p = -1) (hm : m ≤ m2) (h2 : m2 ≤ 256) (h : ∀ p, m ≤ p → p < m2 → ¬ hp_V n (p % 16)) : ∀ p, p < m2 → hp_Q n c K L R A p := by
  intro p hp
  by_cases e : p < m
  · exact C p e
  · exact ⟨fun _ z => absurd z (h p (by omega) hp), fun _ => hz p (by omega) (by omega)⟩
theorem hm_x (W : hp_W n c K L R) (hc : c < 16) (h : hp_N n c k a b) (hM : hp_M c K L R M) {v : Int32} (hv : v = hp_mv (c + 1) (upd K c k) (upd L c a) (upd R c b) M c) : hp_M (c + 1) (upd K c k) (upd L c a) (upd R c b) (upd M c v) := by
  intro x hx
  have W' := hw_x W hc h
  by_cases e : x = c
  · subst e
    rw [pk_us, hv]
    exact (hm_c (c := x + 1) W' Iff.rfl (fun _ => ⟨rfl, rfl, rfl⟩) (fun y hy => pk_un (by omega))).symm
  · rw [pk_un e, hM x hx]
    by_cases e2 : x < c
    · exact (hm_c (c := c) W' (by omega) (fun _ => ⟨pk_un e, pk_un e, pk_un e⟩) (fun y hy => pk_un (by omega))).symm
    · unfold hp_mv
      rw [if_pos (Or.inl (by omega)), if_pos (Or.inl (by omega))]
end HA
/-! the names of a new object -/
def hp_k0 : Nat → Nat → Int32
  | 0 => fun _ => 0
  | i + 1 => upd (hp_k0 i) i 0
def hp_l0 : Nat → Nat → Int32
  | 0 => fun _ => 0
  | i + 1 => upd (hp_l0 i) i (nI i)
def hp_r0 : Nat → Nat → Int32
  | 0 => fun _ => 0
  | i + 1 => upd (hp_r0 i) i (-1)
theorem hw_0 {n : Nat} (h2 : 2 ≤ n) (h4 : n ≤ 4) : ∀ i, i ≤ n → hp_W n i (hp_k0 i) (hp_l0 i) (hp_r0 i) := by
  intro i
  induction i with
  | zero => exact fun _ => ⟨h2, h4, by omega, fun h hh => absurd hh (Nat.not_lt_zero h)⟩
  | succ i ih => exact fun hi => hw_x (ih (by omega)) (by omega) (Or.inl ⟨by omega, rfl, rfl, rfl⟩)
end
section
/-! a rule's step, purely -/
def hp_b (A : Nat → Int32) (x : Int32) (s : Nat) (f : Int32) : Prop := x = -1 ∨ A (x.toNatClampNeg * 16 + s) = f
def hp_z (n : Nat) (A : Nat → Int32) (x y z fb fc r : Int32) : Prop :=
  (∃ s, s < 16 ∧ hp_V n s ∧ (hp_b A x s fb ∧ hp_b A y s fc) ∧ (∀ t, t < s → hp_V n t → ¬ (hp_b A x t fb ∧ hp_b A y t fc)) ∧ r = A (z.toNatClampNeg * 16 + s)) ∨
  (r = -1 ∧ ∀ s, s < 16 → hp_V n s → ¬ (hp_b A x s fb ∧ hp_b A y s fc))
theorem hz_ex (n : Nat) (A : Nat → Int32) (x y z fb fc : Int32) : ∃ r, hp_z n A x y z fb fc r := by
  by_cases h : ∃ s, s < 16 ∧ hp_V n s ∧ (hp_b A x s fb ∧ hp_b A y s fc)
  · obtain ⟨s, ⟨h1, h2, h3⟩, hl⟩ := pk_least (fun s => s < 16 ∧ hp_V n s ∧ (hp_b A x s fb ∧ hp_b A y s fc)) h
    exact ⟨_, Or.inl ⟨s, h1, h2, h3, fun t ht hv z => hl t ht ⟨by omega, hv, z⟩, rfl⟩⟩
  · exact ⟨-1, Or.inr ⟨rfl, fun s hs hv z => h ⟨s, hs, hv, z⟩⟩⟩
/-- an answer of a new fact: none, or a ground id -/
def hp_o (A : Nat → Int32) (r : Int32) : Prop := r = -1 ∨ ∃ g, g < 256 ∧ r = nI g ∧ A g = nI g
section HZ
variable {n c nr : Nat} {K L R A r0 r1 rc : Nat → Int32}
theorem ho_r {k u v r : Int32} (h : hp_r K L R A k u v r) : hp_o A r := by
  rcases h with ⟨g, h1, h2, h3, _⟩ | ⟨h, _⟩
  · exact Or.inr ⟨g, h1, h2, h3.1⟩
  · exact Or.inl h
theorem ho_z (W : hp_W n c K L R) (C : ∀ p, p < 256 → hp_Q n c K L R A p) {x y z fb fc r : Int32} (hz : ∃ h, h < c ∧ z = nI h) (h : hp_z n A x y z fb fc r) : hp_o A r := by
  rcases h with ⟨s, h1, h2, _, _, h3⟩ | ⟨h, _⟩
  · obtain ⟨h0, hh, rfl⟩ := hz
    have w := W.2.2.1
    rw [nI_clamp (by omega)] at h3
    have e2 : (h0 * 16 + s) % 16 = s := by omega
    obtain ⟨q, x1, x2, x3, _⟩ := hc_p W C (t := h0 * 16 + s) ⟨by omega, by rw [e2]; exact h2⟩
    exact Or.inr ⟨q, x1, h3.trans x2, x3⟩
  · exact Or.inl h
end HZ
end
section
/-! X's small readers -/
section HXR
variable {fN fT fP fp fc fe fr fs fk : Int32} {K L R M A Z E r0 r1 rc F : Nat → Int32} {post : Int32 → Prop} {n c g l : Nat}
theorem xi_gid (hg : g < 256) (h1 : A g = nI g → post 1) (h0 : ¬ A g = nI g → post 0) : wpX_isGroundId post (fN, fT, fP, fp, fc, fe, fr, fs, fk, K, L, R, M, A, Z, E, r0, r1, rc, F) (nI g) := by
  refine ⟨vp_in_nI hg (by decide), ?_⟩
  rw [nI_clamp (by omega)]
  exact ⟨h1, h0⟩
theorem xi_left (hg : g < 256) (hl : l < 16) (e : L (g / 16) = nI l) (h : post (A (l * 16 + g % 16))) : wpX_leftPart post (fN, fT, fP, fp, fc, fe, fr, fs, fk, K, L, R, M, A, Z, E, r0, r1, rc, F) (nI g) := by
  have h1 := ha_r16 (a := g) (by omega)
  have h2 := ha_d16 (a := g) (by omega)
  have h3 : nI l * 16 + nI (g % 16) = nI (l * 16 + g % 16) := by rw [ha_16, nI_add]
  refine ⟨by decide, ?_, by decide, ?_, ?_⟩
  · rw [h2]
    exact vp_in_nI (by omega) (by decide)
  · rw [h1, h2, nI_clamp (by omega), e, h3]
    exact vp_in_nI (by omega) (by decide)
  · rw [h1, h2, nI_clamp (n := g / 16) (by omega), e, h3, nI_clamp (by omega)]
    exact h
theorem xi_right1 (hg : g < 256) (e : R (g / 16) = -1) (h : post (-1)) : wpX_rightPart post (fN, fT, fP, fp, fc, fe, fr, fs, fk, K, L, R, M, A, Z, E, r0, r1, rc, F) (nI g) := by
  have h2 := ha_d16 (a := g) (by omega)
  refine ⟨by decide, ?_, ?_⟩
  · rw [h2]
    exact vp_in_nI (by omega) (by decide)
  · rw [h2, nI_clamp (n := g / 16) (by omega), e]
    exact nm_e (br_t rfl h)
theorem xi_right (hg : g < 256) (hl : l < 16) (e : R (g / 16) = nI l) (h : post (A (l * 16 + g % 16))) : wpX_rightPart post (fN, fT, fP, fp, fc, fe, fr, fs, fk, K, L, R, M, A, Z, E, r0, r1, rc, F) (nI g) := by
  have h1 := ha_r16 (a := g) (by omega)
  have h2 := ha_d16 (a := g) (by omega)
  have h3 : nI l * 16 + nI (g % 16) = nI (l * 16 + g % 16) := by rw [ha_16, nI_add]
  refine ⟨by decide, ?_, ?_⟩
  · rw [h2]
    exact vp_in_nI (by omega) (by decide)
  · rw [h1, h2, nI_clamp (n := g / 16) (by omega), e]
    refine nm_e (br_f (ha_ne1 (by omega)) ⟨by decide, ?_, ?_⟩)
    · rw [h3]
      exact vp_in_nI (by omega) (by decide)
    · rw [h3, nI_clamp (by omega)]
      exact h
theorem xi_find3 {k u v r : Int32} (W : hp_W n c K L R) (hv : ∀ g, g < 256 → A g = nI g → g / 16 < c) (nk : ¬ (k = 0 ∨ k = 1)) (n5 : k = 5 → v = -1) (hr : hp_r K L R A k u v r) (h : post r) :
    ∀ d j, j + d = 256 → (∀ q, q < j → ¬ hp_q K L R A k u v q) → wX_findGround_3 post k u v fN fT fP fp fc fe fr fs fk K L R M A Z E r0 r1 rc F (d + 1) (nI j) := by
  have w := W.2.2.1
  intro d
  induction d with
  | zero =>
    intro j hj hq
    have e : j = 256 := by omega
    subst e
    refine br_t (nI_le (a := 256) (b := 256) (by omega) (by decide)) ?_
    rcases hr with ⟨g, h1, h2, h3, _⟩ | ⟨h1, _⟩
    · exact absurd h3 (hq g h1)
    · rw [← h1]; exact h
  | succ d ih =>
    intro j hj hq
    have hj2 : j < 256 := by omega
    have nx : ¬ hp_q K L R A k u v j → ∀ x, x = nI j + 1 → wX_findGround_3 post k u v fN fT fP fp fc fe fr fs fk K L R M A Z E r0 r1 rc F (d + 1) x := fun z =>
      nm_r (nI_1 j) (ih (j + 1) (by omega) (lt_s hq z))
    have fd : hp_q K L R A k u v j → post (nI j) := fun z => by
      rcases hr with ⟨g, h1, h2, h3, h4⟩ | ⟨_, h2⟩
      · have e : g = j := by
          rcases Nat.lt_trichotomy g j with y | y | y
          · exact absurd h3 (hq g y)
          · exact y
          · exact absurd z (h4 j y)
        rw [← e, ← h2]; exact h
      · exact absurd z (h2 j hj2)
    have e16 := ha_d16 (a := j) (by omega)
    refine br_f (nI_ge (b := 256) hj2 (by decide)) (xi_gid hj2 (fun e => br_f (by decide) ⟨by decide, ?_, ?_⟩) (fun e => br_t rfl (nx (fun z => e z.1))))
    · rw [e16]
      exact vp_in_nI (by omega) (by decide)
    · rw [e16, nI_clamp (n := j / 16) (by omega)]
      by_cases hk : K (j / 16) = k
      · refine br_t hk ?_
        have na : ¬ (K (j / 16) = 0 ∨ K (j / 16) = 1) := by rw [hk]; exact nk
        have hc := hv j hj2 e
        obtain ⟨_, ⟨l, hl, el⟩, hR⟩ := hw_na na W hc
        have ell : hp_l L j = l * 16 + j % 16 := by
          unfold hp_l
          rw [el, nI_clamp (by omega)]
        refine xi_left hj2 (by omega) el ?_
        by_cases hu : A (l * 16 + j % 16) = u
        · refine br_t hu ?_
          have hu' : A (hp_l L j) = u := by rw [ell]; exact hu
          rcases hR with ⟨h5, e1⟩ | ⟨h234, r', hr', er⟩
          · have k5 : k = 5 := hk.symm.trans h5
            exact xi_right1 hj2 e1 (br_t (n5 k5).symm (fd ⟨e, hk, hu', Or.inl k5⟩))
          · have err : hp_l R j = r' * 16 + j % 16 := by
              unfold hp_l
              rw [er, nI_clamp (by omega)]
            refine xi_right hj2 (by omega) er ?_
            by_cases hvv : A (r' * 16 + j % 16) = v
            · exact br_t hvv (fd ⟨e, hk, hu', Or.inr (by rw [err]; exact hvv)⟩)
            · refine br_f hvv (nx (fun z => ?_))
              rcases z.2.2.2 with z | z
              · rw [← hk] at z
                rcases h234 with y | y | y <;> rw [y] at z <;> exact absurd z (by decide)
              · exact hvv (by rw [← err]; exact z)
        · exact br_f hu (nx (fun z => hu (by rw [← ell]; exact z.2.2.1)))
      · exact br_f hk (nx (fun z => hk z.2.1))
theorem xi_find {k u v r : Int32} (W : hp_W n c K L R) (hv : ∀ g, g < 256 → A g = nI g → g / 16 < c) (nk : ¬ (k = 0 ∨ k = 1)) (n5 : k = 5 → v = -1) (hr : hp_r K L R A k u v r) (h : post r) :
    wpX_findGround post (fN, fT, fP, fp, fc, fe, fr, fs, fk, K, L, R, M, A, Z, E, r0, r1, rc, F) k u v :=
  ⟨_, xi_find3 W hv nk n5 hr h 256 0 rfl (fun q hq => absurd hq (Nat.not_lt_zero q))⟩
end HXR
end
section
/-! X's addTerm -/
section HXA
variable {fN fT fP fp fc fe fr fs fk : Int32} {K L R M A Z E r0 r1 rc F : Nat → Int32} {n c : Nat}
theorem hr_5 {u v v' r : Int32} (h : hp_r K L R A 5 u v r) : hp_r K L R A 5 u v' r := by
  have e : ∀ g, hp_q K L R A 5 u v g ↔ hp_q K L R A 5 u v' g := fun g => ⟨fun z => ⟨z.1, z.2.1, z.2.2.1, Or.inl rfl⟩, fun z => ⟨z.1, z.2.1, z.2.2.1, Or.inl rfl⟩⟩
  rcases h with ⟨g, a, b, d, f⟩ | ⟨a, b⟩
  · exact Or.inl ⟨g, a, b, (e g).mp d, fun q hq z => f q hq ((e q).mpr z)⟩
  · exact Or.inr ⟨a, fun q hq z => b q hq ((e q).mpr z)⟩
theorem xi_inst {post : Int32 → Prop} {vx vy m : Nat} (W : hp_W n (c + 1) K L R) (hm : m = c * 16 + (4 * vy + vx)) (hx : vx < n) (hy : vy < n)
    (C : ∀ p, p < m → hp_Q n (c + 1) K L R A p) (hz : ∀ p, m ≤ p → p < 256 → A p = -1)
    (h : ∀ q, q ≤ m → hp_V n (q % 16) → hp_S K L R A m q → (∀ q', q' < q → hp_V n (q' % 16) → ¬ hp_S K L R A m q') → post (nI q)) :
    wpX_instanceId post (fN, fT, fP, fp, fc, fe, fr, fs, fk, K, L, R, M, A, Z, E, r0, r1, rc, F) (nI c) (nI vx) (nI vy) := by
  have w := W.2.2.1
  have w4 := W.2.1
  have m1 : m / 16 = c := by omega
  have m2 : m % 16 = 4 * vy + vx := by omega
  have hV : hp_V n (m % 16) := by
    rw [m2]
    exact ⟨by omega, by omega⟩
  have ec : (nI c).toNatClampNeg = c := nI_clamp (by omega)
  have hin : vp_in (nI c) 16 := vp_in_nI (by omega) (by decide)
  have hv : ∀ g, g < 256 → A g = nI g → g / 16 < c + 1 := fun g hg e => by
    by_cases hgm : g < m
    · omega
    · have := hz g (by omega) hg
      rw [e] at this
      exact absurd this (ha_ne1 (by omega))
  have hat : hp_a K m → post (nI (16 * hp_n K L m)) := fun ha => by
    obtain ⟨a1, a2, a3, a4⟩ := hq_a (A := A) W (by omega) hV ha
    exact h _ a1 a2 a3 a4
  refine ⟨hin, ?_⟩
  rw [ec]
  refine nm_e ?_
  by_cases k0 : K c = 0
  · refine br_t k0 ?_
    have en : hp_n K L m = c := by
      unfold hp_n
      rw [m1, if_pos k0]
    have := hat (Or.inl (by rw [m1]; exact k0))
    rw [en, Nat.mul_comm] at this
    rw [ha_16]
    exact this
  · refine br_f k0 ?_
    by_cases k1 : K c = 1
    · refine br_t k1 ⟨hin, ?_⟩
      have := hat (Or.inr (by rw [m1]; exact k1))
      by_cases l0 : L c = 0
      · refine br_t l0 ?_
        have en : hp_n K L m = vx := by
          unfold hp_n
          rw [m1, if_neg k0, if_pos l0]
          omega
        rw [en, Nat.mul_comm] at this
        rw [ha_16]
        exact this
      · refine br_f l0 ?_
        have en : hp_n K L m = vy := by
          unfold hp_n
          rw [m1, if_neg k0, if_neg l0]
          omega
        rw [en, Nat.mul_comm] at this
        rw [ha_16]
        exact this
    · have na : ¬ hp_a K m := by
        unfold hp_a
        rw [m1]
        exact fun z => z.elim k0 k1
      have ex : nI vx + 4 * nI vy = nI (m % 16) := by
        rw [ha_4, nI_add, m2]
        exact congrArg nI (by omega)
      have em : nI c * 16 + nI (m % 16) = nI m := by
        rw [ha_16, nI_add]
        exact congrArg nI (by omega)
      obtain ⟨l, hl, el, ell⟩ := hw_lp W (p := m) (by omega) na
      have el' : nI l * 16 + nI (m % 16) = nI (hp_l L m) := by
        rw [ha_16, nI_add, ell]
      rw [m1] at el
      refine br_f k1 (nm_r ex ?_)
      rw [el, el', nI_clamp (n := hp_l L m) (by omega)]
      refine ⟨hin, vp_in_nI (by omega) (by decide), nm_e ?_⟩
      have fin : ∀ r, hp_r K L R A (K c) (A (hp_l L m)) (A (hp_l R m)) r → (r = -1 → post (nI c * 16 + nI (m % 16))) ∧ (¬ r = -1 → post r) := fun r hr => by
        rw [← m1] at hr
        rcases hr with ⟨g, h1, h2, h3, h4⟩ | ⟨h1, h2⟩
        · obtain ⟨b1, b2, b3, b4⟩ := hq_f C hz (by omega) na h1 h3 h4
          refine br_f (by rw [h2]; exact ha_ne1 (by omega)) ?_
          rw [h2]
          exact h g b1 b2 b3 b4
        · refine br_t h1 ?_
          rw [em]
          exact h m (Nat.le_refl _) hV hs_r (hq_0 C (by omega) (by omega) na h2)
      have nk : ¬ (K c = 0 ∨ K c = 1) := fun z => z.elim k0 k1
      by_cases k5 : K c = 5
      · refine br_t k5 ?_
        obtain ⟨r, hr⟩ := hr_ex (K := K) (L := L) (R := R) (A := A) (K c) (A (hp_l L m)) (-1)
        refine xi_find W hv nk (fun _ => rfl) hr (fin r ?_)
        rw [k5] at hr ⊢
        exact hr_5 hr
      · obtain ⟨l', hl', er, err⟩ := hw_rp W (p := m) (by omega) na (by rw [m1]; exact k5)
        have er' : nI l' * 16 + nI (m % 16) = nI (hp_l R m) := by
          rw [ha_16, nI_add, err]
        rw [m1] at er
        refine br_f k5 ?_
        rw [er, er', nI_clamp (n := hp_l R m) (by omega)]
        obtain ⟨r, hr⟩ := hr_ex (K := K) (L := L) (R := R) (A := A) (K c) (A (hp_l L m)) (A (hp_l R m))
        exact ⟨hin, vp_in_nI (by omega) (by decide), xi_find W hv nk (fun z => absurd z k5) hr (fin r hr)⟩
def hp_P (n c : Nat) (K L R A : Nat → Int32) (m : Nat) : Prop := (∀ p, p < m → hp_Q n c K L R A p) ∧ (∀ p, m ≤ p → p < 256 → A p = -1) ∧ ∀ p, 256 ≤ p → A p = 0
theorem xi_add67 {post : Int32 → St2 → Prop} {J : Int32 → (Nat → Int32) → (Nat → Int32) → (Nat → Int32) → (Nat → Int32) → (Nat → Int32) → (Nat → Int32) → (Nat → Int32) → (Nat → Int32) → (Nat → Int32) → (Nat → Int32) → (Nat → Int32) → Prop} {vy : Nat}
    (W : hp_W n (c + 1) K L R) (hy : vy < n) (hP : hp_P n (c + 1) K L R A (c * 16 + 4 * vy))
    (hJ : ∀ A', hp_P n (c + 1) K L R A' (c * 16 + 4 * (vy + 1)) → J (nI (vy + 1)) K L R M A' Z E r0 r1 rc F) :
    ∃ n67, wX_addTerm_67 post J (nI c) (nI vy) (nI n) fT fP fp fc fe fr fs fk n67 0 K L R M A Z E r0 r1 rc F := by
  have w := W.2.2.1
  have w4 := W.2.1
  refine pk_loop (fun f i s => wX_addTerm_67 post J (nI c) (nI vy) (nI n) fT fP fp fc fe fr fs fk f (nI i) K L R M s Z E r0 r1 rc F) (fun i s => hp_P n (c + 1) K L R s (c * 16 + (4 * vy + i))) n 0 A (by omega) hP ?_ ?_
  · intro f s hs
    refine br_t (nI_le (Nat.le_refl _) (by omega)) (nm_r (nI_1 vy) (hJ s ⟨?_, fun p h1 h2 => hs.2.1 p (by omega) h2, hs.2.2⟩))
    exact hq_k hs.1 hs.2.1 (by omega) (by omega) (fun p h1 h2 z => by have := z.1; omega)
  · intro f i s hi hs nx
    have em : nI c * 16 + nI i + 4 * nI vy = nI (c * 16 + (4 * vy + i)) := by
      rw [ha_16, ha_4, nI_add, nI_add]
      exact congrArg nI (by omega)
    refine br_f (nI_ge hi (by omega)) (nm_r em (xi_inst W rfl hi hy hs.1 hs.2.1 ?_))
    intro q h1 h2 h3 h4
    refine ⟨vp_in_nI (by omega) (by decide), ?_⟩
    rw [nI_clamp (by omega)]
    refine nm_e (nm_r (nI_1 i) (nx _ ⟨?_, ?_, ?_⟩))
    · have m2 : (c * 16 + (4 * vy + i)) % 16 = 4 * vy + i := by omega
      have hh := hq_s (m := c * 16 + (4 * vy + i)) W hs.1 (by omega) h1 h2 h3 h4 (by rw [m2]; exact ⟨by omega, by omega⟩)
      exact hh
    · intro p g1 g2
      rw [pk_un (by omega)]
      exact hs.2.1 p (by omega) g2
    · intro p g1
      rw [pk_un (by omega)]
      exact hs.2.2 p g1
theorem xi_add55 {post : Int32 → St2 → Prop} (W : hp_W n (c + 1) K L R) (hP : hp_P n (c + 1) K L R A (c * 16))
    (h : ∀ A', hp_C n (c + 1) K L R A' → (∀ p, 256 ≤ p → A' p = 0) → post (nI c) (nI n, fT, fP, fp, fc, fe, fr, fs, fk, K, L, R, M, A', Z, E, r0, r1, rc, F)) :
    ∃ n55, wX_addTerm_55 post (nI c) (nI n) fT fP fp fc fe fr fs fk n55 0 K L R M A Z E r0 r1 rc F := by
  have w := W.2.2.1
  have w4 := W.2.1
  refine pk_loop (fun f i s => wX_addTerm_55 post (nI c) (nI n) fT fP fp fc fe fr fs fk f (nI i) K L R M s Z E r0 r1 rc F) (fun i s => hp_P n (c + 1) K L R s (c * 16 + 4 * i)) n 0 A (by omega) hP ?_ ?_
  · intro f s hs
    refine br_t (nI_le (Nat.le_refl _) (by omega)) (h s (hq_z (by omega) (hq_k hs.1 hs.2.1 (by omega) (by omega) (fun p h1 h2 z => by have := z.2; omega)) (fun p h1 h2 => hs.2.1 p (by omega) h2)) hs.2.2)
  · intro f i s hi hs nx
    exact br_f (nI_ge hi (by omega)) (xi_add67 W hi hs (fun A' h' => nx A' h'))
theorem xi_vars {post : Int32 → Prop} {k a b v : Int32} (hc : c < 16) (h : hp_N n c k a b) {K' L' R' : Nat → Int32} (e1 : K' c = k) (e2 : L' c = a) (e3 : R' c = b) (hv : v = hp_mv (c + 1) K' L' R' M c) (hp : post v) : wpX_varsOf post (fN, fT, fP, fp, fc, fe, fr, fs, fk, K, L, R, M, A, Z, E, r0, r1, rc, F) k a b := by
  unfold hp_mv at hv
  rw [e1, e2, e3] at hv
  have c1 : ¬ c + 1 ≤ c := by omega
  by_cases k0 : k = 0
  · rw [if_pos (Or.inr k0)] at hv
    refine br_t k0 ?_
    rw [← hv]; exact hp
  · rw [if_neg (fun z => z.elim c1 k0)] at hv
    refine br_f k0 ?_
    rcases h with h | ⟨_, h | h | h⟩
    · exact absurd h.2.1 k0
    · obtain ⟨rfl, ha, _⟩ := h
      rw [if_pos rfl] at hv
      refine br_t rfl ?_
      rcases ha with rfl | rfl
      · rw [if_pos rfl] at hv
        rw [show (1 : Int32) <<< ((0 : Int32) &&& 31) = 1 by decide, ← hv]; exact hp
      · rw [if_neg (by decide)] at hv
        rw [show (1 : Int32) <<< ((1 : Int32) &&& 31) = 2 by decide, ← hv]; exact hp
    · obtain ⟨rfl, ⟨l, hl, rfl⟩, _⟩ := h
      rw [if_neg (by decide), if_pos rfl] at hv
      refine br_f (by decide) (br_t rfl ⟨vp_in_nI (by omega) (by decide), ?_⟩)
      rw [← hv]; exact hp
    · obtain ⟨hk, ⟨l, hl, rfl⟩, ⟨r, hr, rfl⟩⟩ := h
      have k1 : ¬ k = 1 := by rcases hk with rfl | rfl | rfl <;> decide
      have k5 : ¬ k = 5 := by rcases hk with rfl | rfl | rfl <;> decide
      rw [if_neg k1, if_neg k5] at hv
      refine br_f k1 (br_f k5 ⟨vp_in_nI (by omega) (by decide), vp_in_nI (by omega) (by decide), ?_⟩)
      rw [← hv]; exact hp
theorem xi_add {post : Int32 → St2 → Prop} {k a b : Int32} (W : hp_W n c K L R) (hc : c < 16) (hN : hp_N n c k a b) (C : hp_C n c K L R A) (hA : ∀ p, 256 ≤ p → A p = 0) (hM : hp_M c K L R M) (hMt : ∀ p, 16 ≤ p → M p = 0)
    (h : ∀ A' M', hp_C n (c + 1) (upd K c k) (upd L c a) (upd R c b) A' → (∀ p, 256 ≤ p → A' p = 0) → hp_M (c + 1) (upd K c k) (upd L c a) (upd R c b) M' → (∀ p, 16 ≤ p → M' p = 0) → post (nI c) (nI n, fT, fP, fp, nI (c + 1), fe, fr, fs, fk, upd K c k, upd L c a, upd R c b, M', A', Z, E, r0, r1, rc, F)) :
    wpX_addTerm post (nI n, fT, fP, fp, nI c, fe, fr, fs, fk, K, L, R, M, A, Z, E, r0, r1, rc, F) k a b := by
  have hin : vp_in (nI c) 16 := vp_in_nI hc (by decide)
  have ec : (nI c).toNatClampNeg = c := nI_clamp (by omega)
  refine ⟨hin, nm_r (e' := upd K c k) (by rw [ec]) ⟨hin, nm_r (e' := upd L c a) (by rw [ec]) ⟨hin, nm_r (e' := upd R c b) (by rw [ec]) (xi_vars (K' := upd K c k) (L' := upd L c a) (R' := upd R c b) hc hN pk_us pk_us pk_us rfl ⟨hin, ?_⟩)⟩⟩⟩
  rw [ec]
  refine nm_e (nm_r (nI_1 c) (xi_add55 (hw_x W hc hN) ⟨hq_x W C, hq_y W C, hA⟩ (fun A' h1 h2 => h A' _ h1 h2 (hm_x W hc hN hM rfl) ?_)))
  intro p hp
  rw [pk_un (by omega)]
  exact hMt p hp
end HXA
end
section
/-! both constructors -/
theorem hp_cl (x : Int32) {lo hi : Nat} (h : lo ≤ hi) (hb : hi < 1000) : ∃ j, lo ≤ j ∧ j ≤ hi ∧ ∀ P : Int32 → Prop, P (nI j) → ((nI lo ≤ x → ((x ≤ nI hi → P x) ∧ (¬ x ≤ nI hi → P (nI hi)))) ∧ (¬ nI lo ≤ x → P (nI lo))) := by
  by_cases h1 : nI lo ≤ x
  · by_cases h2 : x ≤ nI hi
    · have h0 : ¬ x < 0 := fun z => by
        have := Int32.lt_of_le_of_lt h1 z
        exact nI_pos (by omega) this
      obtain ⟨j, hj, rfl⟩ := nI_of h0
      rw [nI_leI (by omega) hj] at h1
      rw [nI_leI hj (by omega)] at h2
      exact ⟨j, h1, h2, fun P hP => br_t (nI_le h1 hj) (br_t (nI_le h2 (by omega)) hP)⟩
    · exact ⟨hi, h, Nat.le_refl _, fun P hP => br_t h1 (br_f h2 hP)⟩
  · exact ⟨lo, Nat.le_refl _, h, fun P hP => br_f h1 hP⟩
def hp_neg (m : Nat) : Nat → Int32 := fun p => if p < m then -1 else 0
theorem hn_s (m : Nat) : upd (hp_neg m) m (-1) = hp_neg (m + 1) := by
  funext p
  by_cases e : p = m
  · subst e
    rw [pk_us]
    exact (if_pos (by omega)).symm
  · rw [pk_un e]
    by_cases h : p < m
    · exact (if_pos h).trans (if_pos (show p < m + 1 by omega)).symm
    · exact (if_neg h).trans (if_neg (show ¬ p < m + 1 by omega)).symm
theorem hn_0 : (fun _ => 0 : Nat → Int32) = hp_neg 0 := funext fun p => (if_neg (Nat.not_lt_zero p)).symm
theorem hn_lo {p : Nat} (h : p < 256) : hp_neg 256 p = -1 := if_pos h
theorem hn_hi {p : Nat} (h : 256 ≤ p) : hp_neg 256 p = 0 := if_neg (by omega)
section HXI
variable {fN fT fP fp fc fe fr fs fk : Int32} {K L R M A Z E r0 r1 rc F : Nat → Int32} {n : Nat} {post : St2 → Prop}
end HXI
section HYI
end HYI
end
section
/-! when one term under two codes is the same ground term: they agree on its variables -/
def hp_b0 (m : Int32) : Prop := m = 1 ∨ m = 3
def hp_b1 (m : Int32) : Prop := m = 2 ∨ m = 3
def hp_03 (m : Int32) : Prop := m = 0 ∨ m = 1 ∨ m = 2 ∨ m = 3
theorem hb_or {a b : Int32} (ha : hp_03 a) (hb : hp_03 b) : hp_03 (a ||| b) ∧ (hp_b0 (a ||| b) ↔ hp_b0 a ∨ hp_b0 b) ∧ (hp_b1 (a ||| b) ↔ hp_b1 a ∨ hp_b1 b) := by
  unfold hp_03 hp_b0 hp_b1
  rcases ha with rfl | rfl | rfl | rfl <;> rcases hb with rfl | rfl | rfl | rfl <;> decide
theorem hb_sub {a b : Int32} (ha : hp_03 a) (hb : hp_03 b) (h : a &&& (b ^^^ (-1)) = 0) : (hp_b0 a → hp_b0 b) ∧ (hp_b1 a → hp_b1 b) := by
  unfold hp_b0 hp_b1
  rcases ha with rfl | rfl | rfl | rfl <;> rcases hb with rfl | rfl | rfl | rfl <;> revert h <;> decide
section HV
variable {n c : Nat} {K L R A M : Nat → Int32}
theorem hm_03 (W : hp_W n c K L R) (hM : hp_M c K L R M) : ∀ h, h < 16 → hp_03 (M h) := by
  intro h
  induction h using Nat.strongRecOn with
  | ind h ih =>
    intro hh
    rw [hM h hh]
    unfold hp_mv
    by_cases e0 : c ≤ h ∨ K h = 0
    · rw [if_pos e0]; exact Or.inl rfl
    · rw [if_neg e0]
      by_cases k1 : K h = 1
      · rw [if_pos k1]
        split
        · exact Or.inr (Or.inl rfl)
        · exact Or.inr (Or.inr (Or.inl rfl))
      · rw [if_neg k1]
        obtain ⟨_, ⟨l, hl, el⟩, h5⟩ := hw_na (K := K) (h := h) (fun z => z.elim (fun y => e0 (Or.inr y)) k1) W (Nat.lt_of_not_le (fun z => e0 (Or.inl z)))
        rw [el, nI_clamp (by omega)]
        by_cases k5 : K h = 5
        · rw [if_pos k5]; exact ih l hl (by omega)
        · rw [if_neg k5]
          rcases h5 with h5 | ⟨_, r, hr, er⟩
          · exact absurd h5.1 k5
          · rw [er, nI_clamp (by omega)]
            exact (hb_or (ih l hl (by omega)) (ih r hr (by omega))).1
theorem hc_2 {p q : Nat} (C : hp_C n c K L R A) (hp : p < 256) (hq : q < 256) (vp : p / 16 < c ∧ hp_V n (p % 16)) (vq : q / 16 < c ∧ hp_V n (q % 16)) : A p = A q ↔ hp_S K L R A p q := by
  obtain ⟨x, x1, x2, x3, x4, x5⟩ := (C p hp).1 vp.1 vp.2
  obtain ⟨y, y1, y2, y3, y4, y5⟩ := (C q hq).1 vq.1 vq.2
  constructor
  · intro e
    have : x = y := ha_eq (x2.symm.trans (e.trans y2)) (by omega) (by omega)
    subst this
    exact hs_t x4 (hs_s y4)
  · intro s
    have : x = y := by
      rcases Nat.lt_trichotomy x y with h | h | h
      · exact absurd (hs_t (hs_s s) x4) (y5 x h x3)
      · exact h
      · exact absurd (hs_t s y4) (x5 y h y3)
    rw [x2, y2, this]
/-- canonical places that are the same are one -/
theorem hc_u {p q : Nat} (C : hp_C n c K L R A) (hp : p < 256) (hq : q < 256) (ep : A p = nI p) (eq : A q = nI q) (s : hp_S K L R A p q) : p = q := by
  have := (hc_2 C hp hq (hc_g C hp ep) (hc_g C hq eq)).mpr s
  rw [ep, eq] at this
  exact ha_eq this (by omega) (by omega)
theorem hv_ag (W : hp_W n c K L R) (C : hp_C n c K L R A) (hM : hp_M c K L R M) {s t : Nat} (hs : s < 16) (ht : t < 16) (vs : hp_V n s) (vt : hp_V n t) :
    ∀ h, h < c → (A (h * 16 + s) = A (h * 16 + t) ↔ ((hp_b0 (M h) → s % 4 = t % 4) ∧ (hp_b1 (M h) → s / 4 = t / 4))) := by
  have w := W.2.2.1
  intro h
  induction h using Nat.strongRecOn with
  | ind h ih =>
    intro hh
    have e1 : (h * 16 + s) / 16 = h := by omega
    have e2 : (h * 16 + s) % 16 = s := by omega
    have e3 : (h * 16 + t) / 16 = h := by omega
    have e4 : (h * 16 + t) % 16 = t := by omega
    rw [hc_2 C (by omega) (by omega) ⟨by omega, by rw [e2]; exact vs⟩ ⟨by omega, by rw [e4]; exact vt⟩, hM h (by omega)]
    unfold hp_S hp_mv hp_a hp_n hp_l
    rw [e1, e2, e3, e4]
    by_cases k0 : K h = 0
    · rw [if_pos (Or.inr k0), if_pos k0, if_pos k0]
      exact ⟨fun _ => ⟨fun z => z.elim (fun y => absurd y (by decide)) (fun y => absurd y (by decide)), fun z => z.elim (fun y => absurd y (by decide)) (fun y => absurd y (by decide))⟩, fun _ => Or.inl ⟨Or.inl k0, Or.inl k0, rfl⟩⟩
    · have n0 : ¬ (c ≤ h ∨ K h = 0) := fun z => z.elim (by omega) k0
      rw [if_neg n0, if_neg k0, if_neg k0]
      by_cases k1 : K h = 1
      · rw [if_pos k1]
        have a1 : K h = 0 ∨ K h = 1 := Or.inr k1
        by_cases l0 : L h = 0
        · rw [if_pos l0, if_pos l0, if_pos l0]
          constructor
          · rintro (z | z)
            · exact ⟨fun _ => z.2.2, fun y => y.elim (fun u => absurd u (by decide)) (fun u => absurd u (by decide))⟩
            · exact absurd a1 z.1
          · exact fun z => Or.inl ⟨a1, a1, z.1 (Or.inl rfl)⟩
        · rw [if_neg l0, if_neg l0, if_neg l0]
          constructor
          · rintro (z | z)
            · exact ⟨fun y => y.elim (fun u => absurd u (by decide)) (fun u => absurd u (by decide)), fun _ => z.2.2⟩
            · exact absurd a1 z.1
          · exact fun z => Or.inl ⟨a1, a1, z.2 (Or.inl rfl)⟩
      · rw [if_neg k1]
        have na : ¬ (K h = 0 ∨ K h = 1) := fun z => z.elim k0 k1
        obtain ⟨_, ⟨l, hl, el⟩, h5⟩ := hw_na na W hh
        have il := ih l hl (by omega)
        rw [el, nI_clamp (by omega)]
        by_cases k5 : K h = 5
        · rw [if_pos k5, ← il]
          constructor
          · rintro (z | z)
            · exact absurd z.1 na
            · exact z.2.2.1
          · exact fun z => Or.inr ⟨na, rfl, z, Or.inl k5⟩
        · rw [if_neg k5]
          rcases h5 with h5 | ⟨_, r, hr, er⟩
          · exact absurd h5.1 k5
          · have ir := ih r hr (by omega)
            rw [er, nI_clamp (by omega)]
            obtain ⟨_, o1, o2⟩ := hb_or (hm_03 W hM l (by omega)) (hm_03 W hM r (by omega))
            rw [o1, o2]
            constructor
            · rintro (z | z)
              · exact absurd z.1 na
              · have i1 := il.mp z.2.2.1
                have i2 := ir.mp (z.2.2.2.resolve_left k5)
                exact ⟨fun y => y.elim i1.1 i2.1, fun y => y.elim i1.2 i2.2⟩
            · exact fun z => Or.inr ⟨na, rfl, il.mpr ⟨fun y => z.1 (Or.inl y), fun y => z.2 (Or.inl y)⟩, Or.inr (ir.mpr ⟨fun y => z.1 (Or.inr y), fun y => z.2 (Or.inr y)⟩)⟩
/-- a rule's terms: its conclusion has the premises' variables alone -/
def hp_rv (M : Nat → Int32) (x : Int32) : Int32 := if x = -1 then 0 else M x.toNatClampNeg
theorem hv_rule (W : hp_W n c K L R) (C : hp_C n c K L R A) (hM : hp_M c K L R M) {x y : Int32} {z s t : Nat} {fb fc : Int32} (hx : x = -1 ∨ ∃ h, h < c ∧ x = nI h) (hy : y = -1 ∨ ∃ h, h < c ∧ y = nI h) (hz : z < c)
    (hb : M z &&& ((hp_rv M x ||| hp_rv M y) ^^^ (-1)) = 0) (hs : s < 16) (ht : t < 16) (vs : hp_V n s) (vt : hp_V n t) (s1 : hp_b A x s fb) (s2 : hp_b A y s fc) (t1 : hp_b A x t fb) (t2 : hp_b A y t fc) : A (z * 16 + s) = A (z * 16 + t) := by
  have w := W.2.2.1
  have ag : ∀ x : Int32, (x = -1 ∨ ∃ h, h < c ∧ x = nI h) → ∀ f, hp_b A x s f → hp_b A x t f → hp_03 (hp_rv M x) ∧ (hp_b0 (hp_rv M x) → s % 4 = t % 4) ∧ (hp_b1 (hp_rv M x) → s / 4 = t / 4) := fun x hx f a b => by
    unfold hp_rv
    by_cases e : x = -1
    · rw [if_pos e]
      exact ⟨Or.inl rfl, fun z => z.elim (fun y => absurd y (by decide)) (fun y => absurd y (by decide)), fun z => z.elim (fun y => absurd y (by decide)) (fun y => absurd y (by decide))⟩
    · obtain ⟨h, hh, rfl⟩ := hx.resolve_left e
      rw [if_neg e, nI_clamp (by omega)]
      have a := a.resolve_left e
      have b := b.resolve_left e
      rw [nI_clamp (by omega)] at a b
      exact ⟨hm_03 W hM h (by omega), (hv_ag W C hM hs ht vs vt h hh).mp (a.trans b.symm)⟩
  obtain ⟨p1, p2, p3⟩ := ag x hx fb s1 t1
  obtain ⟨q1, q2, q3⟩ := ag y hy fc s2 t2
  obtain ⟨o, o1, o2⟩ := hb_or p1 q1
  obtain ⟨u1, u2⟩ := hb_sub (hm_03 W hM z (by omega)) o hb
  refine (hv_ag W C hM hs ht vs vt z hz).mpr ⟨fun m => ?_, fun m => ?_⟩
  · exact (o1.mp (u1 m)).elim p2 q2
  · exact (o2.mp (u2 m)).elim p3 q3
end HV
end
section
/-! the small methods -/
theorem hp_ix (x : Int32) {c : Nat} (hc : c < 1000) : (∃ j, j < c ∧ x = nI j) ∨ (x < 0 ∨ nI c ≤ x) := by
  rcases pk_ix x (n := c) (by omega) with h | h | h
  · exact Or.inr (Or.inl h)
  · exact Or.inr (Or.inr h)
  · exact Or.inl h
theorem hb_o {x : Int32} {n : Nat} {A B : Prop} (h : x < 0 ∨ nI n ≤ x) (a : A) : (x < 0 → A) ∧ (¬ x < 0 → ((nI n ≤ x → A) ∧ (¬ nI n ≤ x → B))) := by
  by_cases z : x < 0
  · exact br_t z a
  · exact br_f z (br_t (h.resolve_left z) a)
theorem hb_i {n j : Nat} {A B : Prop} (h : j < n) (hn : n < 1000) (b : B) : (nI j < 0 → A) ∧ (¬ nI j < 0 → ((nI n ≤ nI j → A) ∧ (¬ nI n ≤ nI j → B))) :=
  br_f (nI_pos (by omega)) (br_f (nI_ge h (by omega)) b)
theorem hb_o2 {x : Int32} {n : Nat} {A B : Prop} (h : x < 0 ∨ nI n ≤ x) (a : A) : (x < 0 → A) ∧ (¬ x < 0 → ((x < nI n → B) ∧ (¬ x < nI n → A))) := by
  by_cases z : x < 0
  · exact br_t z a
  · exact br_f z (br_f (Int32.not_lt.mpr (h.resolve_left z)) a)
theorem hb_i2 {n j : Nat} {A B : Prop} (h : j < n) (hn : n < 1000) (b : B) : (nI j < 0 → A) ∧ (¬ nI j < 0 → ((nI j < nI n → B) ∧ (¬ nI j < nI n → A))) :=
  br_f (nI_pos (by omega)) (br_t (nI_lt h (by omega)) b)
section HS
variable {fN fT fP fp fc fe fr fs fk : Int32} {K L R M A Z E r0 r1 rc F : Nat → Int32} {Ym Yc Yk : Nat → Int32} {post : Int32 → Prop} {n c j : Nat} {x : Int32}
theorem xi_h1 (h : j < c) (hc : c < 1000) (hp : post 1) : wpX_isHandle post (fN, fT, fP, fp, nI c, fe, fr, fs, fk, K, L, R, M, A, Z, E, r0, r1, rc, F) (nI j) := hb_i h hc hp
theorem xi_h0 (h : x < 0 ∨ nI c ≤ x) (hp : post 0) : wpX_isHandle post (fN, fT, fP, fp, nI c, fe, fr, fs, fk, K, L, R, M, A, Z, E, r0, r1, rc, F) x := hb_o h hp
theorem xi_n1 (h : j < n) (hc : n < 1000) (hp : post 1) : wpX_isName post (nI n, fT, fP, fp, fc, fe, fr, fs, fk, K, L, R, M, A, Z, E, r0, r1, rc, F) (nI j) := hb_i h hc hp
theorem xi_n0 (h : x < 0 ∨ nI n ≤ x) (hp : post 0) : wpX_isName post (nI n, fT, fP, fp, fc, fe, fr, fs, fk, K, L, R, M, A, Z, E, r0, r1, rc, F) x := hb_o h hp
theorem xi_s1 (h : j < n) (hc : n < 1000) (hp : post 1) : wpX_isStep post (fN, fT, fP, fp, fc, fe, fr, nI n, fk, K, L, R, M, A, Z, E, r0, r1, rc, F) (nI j) := hb_i h hc hp
theorem xi_s0 (h : x < 0 ∨ nI n ≤ x) (hp : post 0) : wpX_isStep post (fN, fT, fP, fp, fc, fe, fr, nI n, fk, K, L, R, M, A, Z, E, r0, r1, rc, F) x := hb_o h hp
end HS
section HJ
variable {n tm pm c ne nr ns : Nat} {ph kn : Int32} {K L R M A Z E r0 r1 rc F Ym Yc Yk : Nat → Int32}
end HJ
end
section
/-! groundId, rank, count, know -/
section HG
variable {n c ne nr ns : Nat} {ph kn : Int32} {K L R M A Z E r0 r1 rc F : Nat → Int32}
theorem xg_id {post : Int32 → Prop} {j a b : Nat} (hc : c ≤ 16) (hn : n ≤ 4) (hj : j < c) (ha : a < n) (hb : b < n) (h : post (A (j * 16 + (4 * b + a)))) : wpX_groundId post (nI n, 16, 32, ph, nI c, nI ne, nI nr, nI ns, kn, K, L, R, M, A, Z, E, r0, r1, rc, F) (nI j) (nI a) (nI b) := by
  unfold wpX_groundId
  refine xi_h1 hj (by omega) (br_f (by decide) (xi_n1 ha (by omega) (br_f (by decide) (xi_n1 hb (by omega) (br_f (by decide) ?_)))))
  have e : nI j * 16 + nI a + 4 * nI b = nI (j * 16 + (4 * b + a)) := by
    rw [ha_16, ha_4, nI_add, nI_add]
    exact congrArg nI (by omega)
  rw [e, nI_clamp (by omega)]
  exact ⟨vp_in_nI (by omega) (by decide), h⟩
theorem xg_h {post : Int32 → Prop} {x y z : Int32} (h : x < 0 ∨ nI c ≤ x) (hp : post (-5)) : wpX_groundId post (nI n, 16, 32, ph, nI c, nI ne, nI nr, nI ns, kn, K, L, R, M, A, Z, E, r0, r1, rc, F) x y z := by
  unfold wpX_groundId
  exact xi_h0 h (br_t rfl hp)
theorem xg_x {post : Int32 → Prop} {y z : Int32} {j : Nat} (hc : c ≤ 16) (hj : j < c) (h : y < 0 ∨ nI n ≤ y) (hp : post (-4)) : wpX_groundId post (nI n, 16, 32, ph, nI c, nI ne, nI nr, nI ns, kn, K, L, R, M, A, Z, E, r0, r1, rc, F) (nI j) y z := by
  unfold wpX_groundId
  exact xi_h1 hj (by omega) (br_f (by decide) (xi_n0 h (br_t rfl hp)))
theorem xg_y {post : Int32 → Prop} {z : Int32} {j a : Nat} (hc : c ≤ 16) (hn : n ≤ 4) (hj : j < c) (ha : a < n) (h : z < 0 ∨ nI n ≤ z) (hp : post (-4)) : wpX_groundId post (nI n, 16, 32, ph, nI c, nI ne, nI nr, nI ns, kn, K, L, R, M, A, Z, E, r0, r1, rc, F) (nI j) (nI a) z := by
  unfold wpX_groundId
  exact xi_h1 hj (by omega) (br_f (by decide) (xi_n1 ha (by omega) (br_f (by decide) (xi_n0 h (br_t rfl hp)))))
/-- how many ground ids there are -/
def hp_w (A : Nat → Int32) : Nat → Nat
  | 0 => 0
  | m + 1 => hp_w A m + (if A m = nI m then 1 else 0)
theorem hw_le (m : Nat) : hp_w A m ≤ m := by
  induction m with
  | zero => exact Nat.le_refl _
  | succ m ih =>
    show hp_w A m + (if A m = nI m then 1 else 0) ≤ m + 1
    split <;> omega
theorem xu_4 {post : Int32 → Prop} (h : post (nI (hp_w A 256))) : wpX_universeSize post (nI n, 16, 32, ph, nI c, nI ne, nI nr, nI ns, kn, K, L, R, M, A, Z, E, r0, r1, rc, F) := by
  refine pk_loop (fun f i (_ : Unit) => wX_universeSize_4 post (nI n) 16 32 ph (nI c) (nI ne) (nI nr) (nI ns) kn K L R M A Z E r0 r1 rc F f (nI (hp_w A i)) (nI i)) (fun _ _ => True) 256 0 () (by omega) trivial ?_ ?_
  · intro f s _
    exact br_t (nI_le (a := 256) (b := 256) (by omega) (by decide)) h
  · intro f i s hi _ nx
    have nx := nx () trivial
    refine br_f (nI_ge (b := 256) hi (by decide)) (xi_gid hi (fun e => br_f (by decide) ?_) (fun e => br_t rfl ?_))
    · rw [show hp_w A (i + 1) = hp_w A i + 1 from congrArg (hp_w A i + ·) (if_pos e)] at nx
      exact nm_r (nI_1 _) (nm_r (nI_1 i) nx)
    · rw [show hp_w A (i + 1) = hp_w A i from congrArg (hp_w A i + ·) (if_neg e)] at nx
      exact nm_r (nI_1 i) nx
end HG
end
section
/-! rule -/
theorem hb_zo (a : Int32) : (0 : Int32) ||| a = a := by simp
theorem hb_oz (a : Int32) : a ||| (0 : Int32) = a := by simp
/-- a premise that may be given: none, or a handle; b: its variables -/
def hp_pm (c : Nat) (M : Nat → Int32) (x b : Int32) : Prop := (x = -1 ∧ b = 0) ∨ ∃ j, j < c ∧ x = nI j ∧ b = M j
def hp_r1 (x y : Int32) : Int32 := if x = -1 then y else x
def hp_r2 (x y : Int32) : Int32 := if x = -1 then -1 else y
section HU
variable {n c ne nr ns : Nat} {ph kn : Int32} {K L R M A Z E r0 r1 rc F : Nat → Int32} {x y b1 b2 : Int32} {j : Nat}
theorem xr_155 {post : Int32 → St2 → Prop} {z w : Int32} (h8 : nr < 8) (h : post (nI nr) (nI n, 16, 32, ph, nI c, nI ne, nI (nr + 1), nI ns, kn, K, L, R, M, A, Z, E, r0, upd r1 nr z, upd rc nr w, F)) : wX_rule_155 post w (nI nr) z (nI nr) (nI n) 16 32 ph (nI c) (nI ne) (nI nr) (nI ns) kn K L R M A Z E r0 r1 rc F := by
  have fin : vp_in (nI nr) 8 := vp_in_nI h8 (by decide)
  have fcl : (nI nr).toNatClampNeg = nr := nI_clamp (by omega)
  exact ⟨fin, nm_r (e' := upd r1 nr z) (by rw [fcl]) ⟨fin, nm_r (e' := upd rc nr w) (by rw [fcl]) (nm_r (nI_1 nr) h)⟩⟩
theorem xr_138 {post : Int32 → St2 → Prop} {z w : Int32} (h8 : nr < 8) (h : post (nI nr) (nI n, 16, 32, ph, nI c, nI ne, nI (nr + 1), nI ns, kn, K, L, R, M, A, Z, E, upd r0 nr z, upd r1 nr (hp_r2 x y), upd rc nr w, F)) : wX_rule_138 post x y w (nI nr) z (nI nr) (nI n) 16 32 ph (nI c) (nI ne) (nI nr) (nI ns) kn K L R M A Z E r0 r1 rc F := by
  have fin : vp_in (nI nr) 8 := vp_in_nI h8 (by decide)
  have fcl : (nI nr).toNatClampNeg = nr := nI_clamp (by omega)
  refine ⟨fin, nm_r (e' := upd r0 nr z) (by rw [fcl]) ?_⟩
  unfold hp_r2 at h
  by_cases e : x = -1
  · rw [if_pos e] at h
    exact br_t e (xr_155 h8 h)
  · rw [if_neg e] at h
    exact br_f e (xr_155 h8 h)
theorem xr_84 {post : Int32 → St2 → Prop} (hj : j < 16) (hn : nr ≤ 8)
    (h : if M j &&& ((b1 ||| b2) ^^^ (-1)) = 0 then (if nr < 8 then post (nI nr) (nI n, 16, 32, ph, nI c, nI ne, nI (nr + 1), nI ns, kn, K, L, R, M, A, Z, E, upd r0 nr (hp_r1 x y), upd r1 nr (hp_r2 x y), upd rc nr (nI j), F) else post (-6) (nI n, 16, 32, ph, nI c, nI ne, nI nr, nI ns, kn, K, L, R, M, A, Z, E, r0, r1, rc, F)) else post (-8) (nI n, 16, 32, ph, nI c, nI ne, nI nr, nI ns, kn, K, L, R, M, A, Z, E, r0, r1, rc, F)) :
    wX_rule_84 post x y (nI j) b2 b1 (nI n) 16 32 ph (nI c) (nI ne) (nI nr) (nI ns) kn K L R M A Z E r0 r1 rc F := by
  have hcl : (nI j).toNatClampNeg = j := nI_clamp (by omega)
  refine nm_e ⟨vp_in_nI hj (by decide), ?_⟩
  rw [hcl]
  by_cases e : M j &&& ((b1 ||| b2) ^^^ (-1)) = 0
  · rw [if_pos e] at h
    refine br_t e ?_
    by_cases h8 : nr < 8
    · rw [if_pos h8] at h
      refine br_t (nI_lt (b := 8) h8 (by decide)) ?_
      unfold hp_r1 at h
      by_cases e1 : x = -1
      · rw [if_pos e1] at h
        exact br_t e1 (xr_138 h8 h)
      · rw [if_neg e1] at h
        exact br_f e1 (xr_138 h8 h)
    · rw [if_neg h8] at h
      exact br_f (nI_nlt (b := 8) (by omega) (by omega)) h
  · rw [if_neg e] at h
    exact br_f e h
theorem xr_27 {post : Int32 → St2 → Prop} (hc : c ≤ 16) (hj : j < c) (hn : nr ≤ 8) (p1 : hp_pm c M x b1) (p2 : hp_pm c M y b2)
    (h : if M j &&& ((b1 ||| b2) ^^^ (-1)) = 0 then (if nr < 8 then post (nI nr) (nI n, 16, 32, ph, nI c, nI ne, nI (nr + 1), nI ns, kn, K, L, R, M, A, Z, E, upd r0 nr (hp_r1 x y), upd r1 nr (hp_r2 x y), upd rc nr (nI j), F) else post (-6) (nI n, 16, 32, ph, nI c, nI ne, nI nr, nI ns, kn, K, L, R, M, A, Z, E, r0, r1, rc, F)) else post (-8) (nI n, 16, 32, ph, nI c, nI ne, nI nr, nI ns, kn, K, L, R, M, A, Z, E, r0, r1, rc, F)) :
    wX_rule_27 post x y (nI j) (nI n) 16 32 ph (nI c) (nI ne) (nI nr) (nI ns) kn K L R M A Z E r0 r1 rc F := by
  have h69 : wX_rule_69 post x y (nI j) b1 (nI n) 16 32 ph (nI c) (nI ne) (nI nr) (nI ns) kn K L R M A Z E r0 r1 rc F := by
    rcases p2 with ⟨rfl, rfl⟩ | ⟨i, hi, rfl, rfl⟩
    · exact br_t rfl (xr_84 (by omega) hn h)
    · have hcl : (nI i).toNatClampNeg = i := nI_clamp (by omega)
      refine br_f (ha_ne1 (by omega)) ⟨vp_in_nI (by omega) (by decide), ?_⟩
      rw [hcl]
      exact xr_84 (by omega) hn h
  have h43 : wX_rule_43 post x y (nI j) (nI n) 16 32 ph (nI c) (nI ne) (nI nr) (nI ns) kn K L R M A Z E r0 r1 rc F := by
    unfold wX_rule_43
    refine xi_h1 hj (by omega) (br_f (by decide) ?_)
    rcases p1 with ⟨rfl, rfl⟩ | ⟨i, hi, rfl, rfl⟩
    · exact br_t rfl h69
    · have hcl : (nI i).toNatClampNeg = i := nI_clamp (by omega)
      refine br_f (ha_ne1 (by omega)) ⟨vp_in_nI (by omega) (by decide), ?_⟩
      rw [hcl]
      exact h69
  rcases p2 with ⟨rfl, _⟩ | ⟨i, hi, rfl, _⟩
  · exact br_t rfl h43
  · exact br_f (ha_ne1 (by omega)) (xi_h1 hi (by omega) (br_f (by decide) h43))
theorem hp_pmo (x : Int32) (M : Nat → Int32) {c : Nat} (hc : c ≤ 16) : (∃ b, hp_pm c M x b) ∨ (¬ x = -1 ∧ (x < 0 ∨ nI c ≤ x)) := by
  by_cases e : x = -1
  · exact Or.inl ⟨0, Or.inl ⟨e, rfl⟩⟩
  · rcases hp_ix x (c := c) (by omega) with ⟨j, hj, rfl⟩ | h
    · exact Or.inl ⟨M j, Or.inr ⟨j, hj, rfl, rfl⟩⟩
    · exact Or.inr ⟨e, h⟩
theorem hp_pm1 (h : hp_pm c M x b1) : x = -1 ∨ ∃ i, i < c ∧ x = nI i := h.elim (fun z => Or.inl z.1) (fun ⟨i, a, b, _⟩ => Or.inr ⟨i, a, b⟩)
end HU
end
section
/-! make -/
def hp_tq (K L R : Nat → Int32) (k a b : Int32) (i : Nat) : Prop := K i = k ∧ L i = a ∧ R i = b
section HK
variable {n c ne nr ns : Nat} {ph kn : Int32} {K L R M A Z E r0 r1 rc F : Nat → Int32} {a b kk : Int32}
theorem xm_3 {post : Int32 → Prop} (hc : c ≤ 16) (hf : ∀ i, i < c → hp_tq K L R kk a b i → (∀ q, q < i → ¬ hp_tq K L R kk a b q) → post (nI i)) (h0 : (∀ q, q < c → ¬ hp_tq K L R kk a b q) → post (-1)) : wpX_findTerm post (nI n, 16, 32, ph, nI c, nI ne, nI nr, nI ns, kn, K, L, R, M, A, Z, E, r0, r1, rc, F) kk a b := by
  refine pk_loop (fun f i (_ : Unit) => wX_findTerm_3 post kk a b (nI n) 16 32 ph (nI c) (nI ne) (nI nr) (nI ns) kn K L R M A Z E r0 r1 rc F f (nI i)) (fun i _ => ∀ q, q < i → ¬ hp_tq K L R kk a b q) c 0 () (by omega) (fun q hq => absurd hq (Nat.not_lt_zero q)) ?_ ?_
  · intro f s hs
    exact br_t (nI_le (Nat.le_refl _) (by omega)) (h0 hs)
  · intro f i s hi hs nx
    have hin : vp_in (nI i) 16 := vp_in_nI (by omega) (by decide)
    have hcl : (nI i).toNatClampNeg = i := nI_clamp (by omega)
    have nx : ¬ hp_tq K L R kk a b i → ∀ x, x = nI i + 1 → wX_findTerm_3 post kk a b (nI n) 16 32 ph (nI c) (nI ne) (nI nr) (nI ns) kn K L R M A Z E r0 r1 rc F f x := fun z => nm_r (nI_1 i) (nx () (lt_s hs z))
    refine br_f (nI_ge hi (by omega)) ⟨hin, ?_⟩
    rw [hcl]
    by_cases e1 : K i = kk
    · refine br_t e1 ⟨hin, ?_⟩
      by_cases e2 : L i = a
      · refine br_t e2 ⟨hin, ?_⟩
        by_cases e3 : R i = b
        · exact br_t e3 (hf i hi ⟨e1, e2, e3⟩ hs)
        · exact br_f e3 (nx (fun z => e3 z.2.2))
      · exact br_f e2 (nx (fun z => e2 z.2.1))
    · exact br_f e1 (nx (fun z => e1 z.1))
theorem hm_u {i i' : Nat} (h : hp_tq K L R kk a b i) (l : ∀ q, q < i → ¬ hp_tq K L R kk a b q) (h' : hp_tq K L R kk a b i') (l' : ∀ q, q < i' → ¬ hp_tq K L R kk a b q) : i' = i := by
  rcases Nat.lt_trichotomy i i' with y | y | y
  · exact absurd h (l' i y)
  · exact y.symm
  · exact absurd h' (l i' y)
end HK
end
section
/-! what step reads: parts, keys, scans, rules, on both sides -/
section HXF
variable {fN fT fP fp fc fe fr fs fk : Int32} {K L R M A Z E r0 r1 rc F : Nat → Int32} {Yk Yc Ym : Nat → Int32} {post : Int32 → Prop} {n c f w i : Nat}
theorem xi_lft (W : hp_W n c K L R) (C : hp_C n c K L R A) (hf : f < 256) (hv : f / 16 < c ∧ hp_V n (f % 16)) (na : ¬ hp_a K f) (h : post (A (hp_l L f))) : wpX_leftPart post (fN, fT, fP, fp, fc, fe, fr, fs, fk, K, L, R, M, A, Z, E, r0, r1, rc, F) (nI f) := by
  obtain ⟨l, x, l1, l2, l3, _⟩ := hc_l W C hv na
  exact xi_left hf l1 l2 (by rw [← l3]; exact h)
theorem xi_rgt (W : hp_W n c K L R) (C : hp_C n c K L R A) (hf : f < 256) (hv : f / 16 < c ∧ hp_V n (f % 16)) (na : ¬ hp_a K f) (n5 : ¬ K (f / 16) = 5) (h : post (A (hp_l R f))) : wpX_rightPart post (fN, fT, fP, fp, fc, fe, fr, fs, fk, K, L, R, M, A, Z, E, r0, r1, rc, F) (nI f) := by
  obtain ⟨l, x, l1, l2, l3, _⟩ := hc_r W C hv na n5
  exact xi_right hf l1 l2 (by rw [← l3]; exact h)
theorem xi_knd {m : Int32} (hf : f < 256) (h1 : K (f / 16) = m → post 1) (h0 : ¬ K (f / 16) = m → post 0) : wpX_isOfKind post (fN, fT, fP, fp, fc, fe, fr, fs, fk, K, L, R, M, A, Z, E, r0, r1, rc, F) (nI f) m := by
  refine ⟨by decide, ?_, ?_⟩
  · rw [ha_d16 (by omega)]
    exact vp_in_nI (by omega) (by decide)
  · rw [ha_d16 (by omega), nI_clamp (by omega)]
    exact ⟨h1, h0⟩
theorem xi_key3 (W : hp_W n c K L R) (C : hp_C n c K L R A) (hf : f < 256) (hv : f / 16 < c ∧ hp_V n (f % 16)) (k : K (f / 16) = 3) (h : post (A (hp_l R f))) : wpX_openingKey post (fN, fT, fP, fp, fc, fe, fr, fs, fk, K, L, R, M, A, Z, E, r0, r1, rc, F) (nI f) := by
  unfold wpX_openingKey
  refine xi_rgt W C hf hv (hn_3 k) (by rw [k]; decide) ⟨by decide, ?_, ?_⟩
  · rw [ha_d16 (by omega)]
    exact vp_in_nI (by omega) (by decide)
  · rw [ha_d16 (by omega), nI_clamp (n := f / 16) (by omega)]
    exact br_t k h
theorem xi_key4 (W : hp_W n c K L R) (C : hp_C n c K L R A) (hf : f < 256) (hv : f / 16 < c ∧ hp_V n (f % 16)) (k : K (f / 16) = 4) (hw : w < 256) (ew : A (hp_l R f) = nI w) (aw : A w = nI w) (h1 : K (w / 16) = 5 → post (A (hp_l L w))) (h0 : ¬ K (w / 16) = 5 → post (-1)) : wpX_openingKey post (fN, fT, fP, fp, fc, fe, fr, fs, fk, K, L, R, M, A, Z, E, r0, r1, rc, F) (nI f) := by
  unfold wpX_openingKey
  refine xi_rgt W C hf hv (hn_4 k) (by rw [k]; decide) ?_
  rw [ew]
  refine ⟨by decide, ?_, ?_⟩
  · rw [ha_d16 (by omega)]
    exact vp_in_nI (by omega) (by decide)
  · rw [ha_d16 (a := f) (by omega), nI_clamp (n := f / 16) (by omega)]
    refine br_f (by rw [k]; decide) ⟨by decide, ?_, ?_⟩
    · rw [ha_d16 (by omega)]
      exact vp_in_nI (by omega) (by decide)
    · rw [ha_d16 (a := w) (by omega), nI_clamp (n := w / 16) (by omega)]
      by_cases k5 : K (w / 16) = 5
      · exact br_t k5 (xi_lft W C hw (hc_g C hw aw) (hn_5 k5) (h1 k5))
      · exact br_f k5 (h0 k5)
theorem xi_mt {x y : Int32} {s : Nat} (hx : x = -1 ∨ ∃ h, h < c ∧ x = nI h) (hc : c ≤ 16) (hs : s < 16) (hy : ¬ x = -1 → vp_in y 32) (h1 : hp_b A x s (F y.toNatClampNeg) → post 1) (h0 : ¬ hp_b A x s (F y.toNatClampNeg) → post 0) : wpX_isMatched post (fN, fT, fP, fp, fc, fe, fr, fs, fk, K, L, R, M, A, Z, E, r0, r1, rc, F) x (nI s) y := by
  by_cases e : x = -1
  · exact br_t e (h1 (Or.inl e))
  · obtain ⟨h, hh, rfl⟩ := hx.resolve_left e
    have e1 : nI h * 16 + nI s = nI (h * 16 + s) := by rw [ha_16, nI_add]
    refine br_f e ?_
    unfold hp_b at h1 h0
    rw [nI_clamp (by omega)] at h1 h0
    rw [e1, nI_clamp (by omega)]
    refine ⟨vp_in_nI (by omega) (by decide), hy e, ?_⟩
    by_cases d : A (h * 16 + s) = F y.toNatClampNeg
    · exact br_t d (h1 (Or.inr d))
    · exact br_f d (h0 (fun z => z.elim e d))
theorem xi_rf {y z r : Int32} {nr : Nat} (W : hp_W n c K L R) (hR : hp_R c nr r0 r1 rc) (hi : i < nr) (h8 : nr ≤ 8) (hy : ¬ r0 i = -1 → vp_in y 32) (hz : ¬ r1 i = -1 → vp_in z 32)
    (hr : hp_z n A (r0 i) (r1 i) (rc i) (F y.toNatClampNeg) (F z.toNatClampNeg) r) (h : post r) : wpX_ruleFact post (nI n, fT, fP, fp, fc, fe, fr, fs, fk, K, L, R, M, A, Z, E, r0, r1, rc, F) (nI i) y z := by
  have w := W.2.2.1
  have w4 := W.2.1
  have hin : vp_in (nI i) 8 := vp_in_nI (by omega) (by decide)
  have hcl : (nI i).toNatClampNeg = i := nI_clamp (by omega)
  obtain ⟨o1, o2, hc, hcc, ec⟩ := hR i hi
  refine pk_loop (fun f vy (_ : Unit) => wX_ruleFact_3 post (nI i) y z (nI n) fT fP fp fc fe fr fs fk K L R M A Z E r0 r1 rc F f (nI vy)) (fun vy _ => ∀ t, t < 4 * vy → hp_V n t → ¬ (hp_b A (r0 i) t (F y.toNatClampNeg) ∧ hp_b A (r1 i) t (F z.toNatClampNeg))) n 0 () (by omega) (fun q hq => absurd hq (Nat.not_lt_zero q)) ?_ ?_
  · intro f s hs
    refine br_t (nI_le (Nat.le_refl _) (by omega)) ?_
    rcases hr with ⟨s, a1, a2, a3, _⟩ | ⟨a1, _⟩
    · exact absurd a3 (hs s (by have := a2.2; omega) a2)
    · rw [← a1]; exact h
  · intro f vy s hvy hs nx
    refine br_f (nI_ge hvy (by omega)) ?_
    refine pk_loop (fun f' vx (_ : Unit) => wX_ruleFact_15 post (wX_ruleFact_3 post (nI i) y z (nI n) fT fP fp fc fe fr fs fk K L R M A Z E r0 r1 rc F f) (nI i) y z (nI vy) (nI n) fT fP fp fc fe fr fs fk K L R M A Z E r0 r1 rc F f' (nI vx)) (fun vx _ => ∀ t, t < 4 * vy + vx → hp_V n t → ¬ (hp_b A (r0 i) t (F y.toNatClampNeg) ∧ hp_b A (r1 i) t (F z.toNatClampNeg))) n 0 () (by omega) hs ?_ ?_
    · intro f' s' hs'
      refine br_t (nI_le (Nat.le_refl _) (by omega)) (nm_r (nI_1 vy) (nx () (fun t ht hv => ?_)))
      by_cases e : t < 4 * vy + n
      · exact hs' t e hv
      · have := hv.1
        omega
    · intro f' vx s' hvx hs' nx'
      have em : nI vx + 4 * nI vy = nI (4 * vy + vx) := by
        rw [ha_4, nI_add]
        exact congrArg nI (by omega)
      have hV : hp_V n (4 * vy + vx) := ⟨by omega, by omega⟩
      have nx' : ¬ (hp_b A (r0 i) (4 * vy + vx) (F y.toNatClampNeg) ∧ hp_b A (r1 i) (4 * vy + vx) (F z.toNatClampNeg)) → ∀ x, x = nI vx + 1 → wX_ruleFact_15 post (wX_ruleFact_3 post (nI i) y z (nI n) fT fP fp fc fe fr fs fk K L R M A Z E r0 r1 rc F f) (nI i) y z (nI vy) (nI n) fT fP fp fc fe fr fs fk K L R M A Z E r0 r1 rc F f' x := fun g =>
        nm_r (nI_1 vx) (nx' () (fun t ht hv => by
          by_cases e : t = 4 * vy + vx
          · rw [e]; exact g
          · exact hs' t (by omega) hv))
      refine br_f (nI_ge hvx (by omega)) (nm_r em ⟨hin, ?_⟩)
      rw [hcl]
      refine xi_mt o1 (by omega) (by omega) hy (fun m1 => br_f (by decide) ⟨hin, xi_mt o2 (by omega) (by omega) hz (fun m2 => br_f (by decide) ⟨hin, ?_⟩) (fun m2 => br_t rfl (nx' (fun g => m2 g.2)))⟩) (fun m1 => br_t rfl (nx' (fun g => m1 g.1)))
      have e1 : rc i * 16 + nI (4 * vy + vx) = nI (hc * 16 + (4 * vy + vx)) := by rw [ec, ha_16, nI_add]
      rw [e1, nI_clamp (by omega)]
      refine ⟨vp_in_nI (by omega) (by decide), ?_⟩
      rcases hr with ⟨s, a1, a2, a3, a4, a5⟩ | ⟨a1, a2⟩
      · have e : s = 4 * vy + vx := by
          rcases Nat.lt_trichotomy s (4 * vy + vx) with q | q | q
          · exact absurd a3 (hs' s q a2)
          · exact q
          · exact absurd ⟨m1, m2⟩ (a4 _ q hV)
        rw [ec, nI_clamp (by omega), e] at a5
        rw [← a5]; exact h
      · exact absurd ⟨m1, m2⟩ (a2 _ (by omega) hV)
end HXF
end
section
/-! X's saturate: one round -/
theorem hc_nv {n c m : Nat} {K L R A : Nat → Int32} (W : hp_W n c K L R) (C : hp_C n c K L R A) (hm : m < 256) (e : A m = nI m) : ¬ K (m / 16) = 1 := by
  intro k1
  have hv := hc_g C hm e
  obtain ⟨a1, a2, a3, a4⟩ := hq_a (A := A) W hv.1 hv.2 (Or.inr k1)
  obtain ⟨q, q1, q2, q3, q4, q5⟩ := (C m hm).1 hv.1 hv.2
  have eq : m = q := ha_eq (e.symm.trans q2) (by omega) (by omega)
  subst eq
  by_cases h : 16 * hp_n K L m < m
  · exact q5 _ h a2 a3
  · have k0 : ¬ K (m / 16) = 0 := by rw [k1]; decide
    have e1 : m % 16 = 0 := by omega
    have e2 : hp_n K L m = 0 := by
      unfold hp_n
      rw [if_neg k0, e1]
      split <;> rfl
    have e3 : m / 16 = 0 := by omega
    rw [e3] at k0
    have w := W.1
    rcases W.2.2.2 0 (by omega) with ⟨_, z, _⟩ | ⟨z, _⟩
    · exact k0 z
    · omega
section HL
variable {fN fT fP fp fc fe fr fs fk : Int32} {K L R M A Z E r0 r1 rc F : Nat → Int32} {Rk : Nat → Int32} {n c i g : Nat} {D : Nat → Prop}
theorem hu_v (hG : hp_G A Rk i) (hg : g < 256) : hp_u Rk i D g = -1 ∨ ∃ j, j ≤ i + 1 ∧ hp_u Rk i D g = nI j := by
  by_cases h1 : Rk g = -1
  · by_cases d : D g
    · exact Or.inr ⟨i + 1, Nat.le_refl _, hu_1 h1 d⟩
    · rw [hu_2 d]
      exact Or.inl h1
  · rw [hu_3 h1]
    rcases hG g hg with a | ⟨a, j, b, e⟩
    · exact Or.inl a
    · exact Or.inr ⟨j, by omega, e⟩
theorem xl_learn {post : St2 → Prop} (hg : g < 256) (hi : i < 1000) (h : post (fN, fT, fP, fp, fc, fe, fr, fs, nI (hp_k (hp_u Rk i (fun x => D x ∨ x = g)) 256), K, L, R, M, A, hp_u Rk i (fun x => D x ∨ x = g), E, r0, r1, rc, F)) : wpX_learn post (fN, fT, fP, fp, fc, fe, fr, fs, nI (hp_k (hp_u Rk i D) 256), K, L, R, M, A, hp_u Rk i D, E, r0, r1, rc, F) (nI g) (nI i + 1) := by
  have hin : vp_in (nI g) 256 := vp_in_nI hg (by decide)
  have hcl : (nI g).toNatClampNeg = g := nI_clamp (by omega)
  refine ⟨hin, ?_⟩
  rw [hcl]
  by_cases e : hp_u Rk i D g = -1
  · have e1 := hu_n (D := D) e hi
    have e2 : hp_k (hp_u Rk i (fun x => D x ∨ x = g)) 256 = hp_k (hp_u Rk i D) 256 + 1 := by
      rw [e1]
      exact hk_u hg e (ha_ne1 (by omega))
    refine br_t e ⟨hin, nm_r (e' := hp_u Rk i (fun x => D x ∨ x = g)) (by rw [e1, nI_1 i]) (nm_r (e' := nI (hp_k (hp_u Rk i (fun x => D x ∨ x = g)) 256)) (by rw [e2, nI_1]) h)⟩
  · refine br_f e ?_
    rw [hu_k hi e] at h
    exact h
theorem xl_held {post : Int32 → Prop} (hG : hp_G A Rk i) (hg : g < 256) (hi : i < 1000) (h1 : hp_H Rk i g → post 1) (h0 : ¬ hp_H Rk i g → post 0) : wpX_isHeld post (fN, fT, fP, fp, fc, fe, fr, fs, fk, K, L, R, M, A, hp_u Rk i D, E, r0, r1, rc, F) (nI g) (nI i) := by
  have hin : vp_in (nI g) 256 := vp_in_nI hg (by decide)
  have hcl : (nI g).toNatClampNeg = g := nI_clamp (by omega)
  rw [← hu_H (D := D) hi] at h1 h0
  refine ⟨hin, ?_⟩
  rw [hcl]
  rcases hu_v (D := D) hG hg with e | ⟨j, hj, e⟩
  · refine br_t e (h0 ?_)
    rintro ⟨j, _, e'⟩
    rw [e] at e'
    exact ha_ne1 (by omega) e'.symm
  · have ne : ¬ hp_u Rk i D g = -1 := by rw [e]; exact ha_ne1 (by omega)
    refine br_f ne ⟨hin, ?_⟩
    rw [e]
    by_cases h : i < j
    · refine br_t (nI_lt h (by omega)) (h0 ?_)
      rintro ⟨j', hj', e'⟩
      have := ha_eq (e.symm.trans e') (by omega) (by omega)
      omega
    · exact br_f (nI_nlt (by omega) (by omega)) (h1 ⟨j, by omega, e⟩)
theorem xl_comp {post : St2 → Prop} (W : hp_W n c K L R) (C : hp_C n c K L R A) (hG : hp_G A Rk i) (hi : i < 1000)
    (h : post (fN, fT, fP, fp, fc, fe, fr, fs, nI (hp_k (hp_u Rk i (hp_X n K L R A r0 r1 rc Rk i 256 0 0 0)) 256), K, L, R, M, A, hp_u Rk i (hp_X n K L R A r0 r1 rc Rk i 256 0 0 0), E, r0, r1, rc, F)) :
    wpX_compose post (fN, fT, fP, fp, fc, fe, fr, fs, nI (hp_k Rk 256), K, L, R, M, A, Rk, E, r0, r1, rc, F) (nI i) := by
  have z0 : hp_u Rk i (hp_X n K L R A r0 r1 rc Rk i 0 0 0 0) = Rk := hu_0 (fun g => hx_0)
  have go : ∃ f, wX_compose_2 post (nI i) f (nI 0) fN fT fP fp fc fe fr fs (nI (hp_k (hp_u Rk i (hp_X n K L R A r0 r1 rc Rk i 0 0 0 0)) 256)) K L R M A (hp_u Rk i (hp_X n K L R A r0 r1 rc Rk i 0 0 0 0)) E r0 r1 rc F := by
    refine pk_loop (fun f m (_ : Unit) => wX_compose_2 post (nI i) f (nI m) fN fT fP fp fc fe fr fs (nI (hp_k (hp_u Rk i (hp_X n K L R A r0 r1 rc Rk i m 0 0 0)) 256)) K L R M A (hp_u Rk i (hp_X n K L R A r0 r1 rc Rk i m 0 0 0)) E r0 r1 rc F) (fun _ _ => True) 256 0 () (by omega) trivial ?_ ?_
    · intro f s _
      exact br_t (nI_le (a := 256) (b := 256) (by omega) (by decide)) h
    · intro f m s hm _ nx
      have nx := nx () trivial
      have n0 : ¬ hp_c K L R A Rk i m → ∀ x, x = nI m + 1 → wX_compose_2 post (nI i) f x fN fT fP fp fc fe fr fs (nI (hp_k (hp_u Rk i (hp_X n K L R A r0 r1 rc Rk i m 0 0 0)) 256)) K L R M A (hp_u Rk i (hp_X n K L R A r0 r1 rc Rk i m 0 0 0)) E r0 r1 rc F := fun z => by
        rw [hu_e (Rk := Rk) (i := i) (fun g => hx_c0 (n := n) (r0 := r0) (r1 := r1) (rc := rc) (mt := 0) (r := 0) (s := 0) (g := g) z)] at nx
        exact nm_r (nI_1 m) nx
      have n1 : hp_c K L R A Rk i m → wX_compose_67 post (wX_compose_2 post (nI i) f) (nI i) (nI m) fN fT fP fp fc fe fr fs (nI (hp_k (hp_u Rk i (hp_X n K L R A r0 r1 rc Rk i m 0 0 0)) 256)) K L R M A (hp_u Rk i (hp_X n K L R A r0 r1 rc Rk i m 0 0 0)) E r0 r1 rc F := fun z => by
        rw [hu_e (Rk := Rk) (i := i) (fun g => hx_c1 (n := n) (r0 := r0) (r1 := r1) (rc := rc) (mt := 0) (r := 0) (s := 0) (g := g) hm z)] at nx
        unfold wX_compose_67
        exact xl_learn hm hi (nm_r (nI_1 m) nx)
      refine br_f (nI_ge (b := 256) hm (by decide)) (xi_gid hm (fun e => br_f (by decide) ⟨by decide, ?_, ?_⟩) (fun e => br_t rfl (n0 (fun z => e z.1))))
      · rw [ha_d16 (by omega)]
        exact vp_in_nI (by omega) (by decide)
      · rw [ha_d16 (a := m) (by omega), nI_clamp (n := m / 16) (by omega)]
        have hv := hc_g C hm e
        by_cases k0 : K (m / 16) = 0
        · exact br_t k0 (n0 (fun z => z.2.1 (Or.inl k0)))
        · have na : ¬ hp_a K m := fun z => z.elim k0 (hc_nv W C hm e)
          obtain ⟨l, a, l1, l2, l3, a1, a2, a3, a4⟩ := hc_l W C hv na
          refine br_f k0 (xi_lft W C hm hv na ?_)
          rw [a2]
          by_cases k5 : K (m / 16) = 5
          · have rr : R (m / 16) = -1 := by
              rcases (hw_na na W hv.1).2.2 with y | ⟨y, _⟩
              · exact y.2
              · rw [k5] at y
                exact absurd y (by decide)
            refine xi_right1 hm rr (xl_held hG a1 hi (fun hh => br_f (by decide) (br_t rfl (n1 ⟨e, na, by rw [a4]; exact hh, Or.inl k5⟩))) (fun hh => br_t rfl (n0 (fun z => hh (by rw [← a4]; exact z.2.2.1)))))
          · obtain ⟨l', b, l1', l2', l3', b1, b2, b3, b4⟩ := hc_r W C hv na k5
            refine xi_rgt W C hm hv na k5 ?_
            rw [b2]
            refine xl_held hG a1 hi (fun hh => br_f (by decide) (br_f (ha_ne1 (by omega)) (xl_held hG b1 hi (fun hb => br_f (by decide) (n1 ⟨e, na, by rw [a4]; exact hh, Or.inr (by rw [b4]; exact hb)⟩)) (fun hb => br_t rfl (n0 (fun z => z.2.2.2.elim k5 (fun y => hb (by rw [← b4]; exact y)))))))) (fun hh => br_t rfl (n0 (fun z => hh (by rw [← a4]; exact z.2.2.1))))
  rw [z0] at go
  exact go
end HL
end
section
/-! X's saturate: takeApart and applyRules -/
section HP
variable {fN fT fP fp fc fe fr fs fk : Int32} {K L R M A Z E r0 r1 rc F : Nat → Int32} {Rk : Nat → Int32} {n c i m : Nat} {D : Nat → Prop}
theorem hu_a {a b : Nat} : hp_u Rk i (fun x => (D x ∨ x = a) ∨ x = b) = hp_u Rk i (fun x => D x ∨ (x = a ∨ x = b)) := hu_e (fun g => or_assoc)
theorem xl_one {post : St2 → Prop} (W : hp_W n c K L R) (C : hp_C n c K L R A) (hG : hp_G A Rk i) (hi : i < 1000) (hm : m < 256) (e : A m = nI m) (hH : hp_H Rk i m)
    (h : post (fN, fT, fP, fp, fc, fe, fr, fs, nI (hp_k (hp_u Rk i (hp_X n K L R A r0 r1 rc Rk i 256 (m + 1) 0 0)) 256), K, L, R, M, A, hp_u Rk i (hp_X n K L R A r0 r1 rc Rk i 256 (m + 1) 0 0), E, r0, r1, rc, F)) :
    wpX_takeApartOne post (fN, fT, fP, fp, fc, fe, fr, fs, nI (hp_k (hp_u Rk i (hp_X n K L R A r0 r1 rc Rk i 256 m 0 0)) 256), K, L, R, M, A, hp_u Rk i (hp_X n K L R A r0 r1 rc Rk i 256 m 0 0), E, r0, r1, rc, F) (nI m) (nI i) := by
  have hv := hc_g C hm e
  have st : ∀ P : Nat → Prop, (∀ g, g < 256 → (hp_E K L R A Rk i m g ↔ P g)) → (∀ g, P g → g < 256) → hp_u Rk i (hp_X n K L R A r0 r1 rc Rk i 256 (m + 1) 0 0) = hp_u Rk i (fun x => hp_X n K L R A r0 r1 rc Rk i 256 m 0 0 x ∨ P x) := fun P h1 h2 =>
    hu_e (fun g => hx_t P (fun g hg => ⟨fun z => (h1 g hg).mp z.2.2, fun z => ⟨e, hH, (h1 g hg).mpr z⟩⟩) h2)
  have st0 : (∀ g, g < 256 → ¬ hp_E K L R A Rk i m g) → hp_u Rk i (hp_X n K L R A r0 r1 rc Rk i 256 (m + 1) 0 0) = hp_u Rk i (hp_X n K L R A r0 r1 rc Rk i 256 m 0 0) := fun h1 =>
    hu_e (fun g => hx_t0 (fun g hg z => h1 g hg z.2.2))
  refine ⟨by decide, ?_, ?_⟩
  · rw [ha_d16 (by omega)]
    exact vp_in_nI (by omega) (by decide)
  · rw [ha_d16 (a := m) (by omega), nI_clamp (n := m / 16) (by omega)]
    refine nm_e ?_
    by_cases k2 : K (m / 16) = 2
    · have n5 : ¬ K (m / 16) = 5 := by rw [k2]; decide
      obtain ⟨l, a, l1, l2, l3, a1, a2, a3, a4⟩ := hc_l W C hv (hn_2 k2)
      obtain ⟨l', b, l1', l2', l3', b1, b2, b3, b4⟩ := hc_r W C hv (hn_2 k2) n5
      rw [st (fun x => x = a ∨ x = b) ?_ ?_] at h
      · refine br_t k2 (xi_lft W C hm hv (hn_2 k2) (xi_rgt W C hm hv (hn_2 k2) n5 ?_))
        rw [a2, b2]
        refine xl_learn a1 hi (xl_learn b1 hi (br_f (by rw [k2]; decide) (br_f (by rw [k2]; decide) ?_)))
        rw [hu_a]
        exact h
      · intro g hg
        constructor
        · rintro (⟨_, z | z⟩ | ⟨z, _⟩ | ⟨z, _⟩)
          · exact Or.inl (ha_eq (z.symm.trans a2) (by omega) (by omega))
          · exact Or.inr (ha_eq (z.symm.trans b2) (by omega) (by omega))
          · rw [k2] at z; exact absurd z (by decide)
          · rw [k2] at z; exact absurd z (by decide)
        · rintro (rfl | rfl)
          · exact Or.inl ⟨k2, Or.inl a2⟩
          · exact Or.inl ⟨k2, Or.inr b2⟩
      · rintro g (rfl | rfl)
        · exact a1
        · exact b1
    · refine br_f k2 ?_
      by_cases k3 : K (m / 16) = 3
      · have n5 : ¬ K (m / 16) = 5 := by rw [k3]; decide
        obtain ⟨l, a, l1, l2, l3, a1, a2, a3, a4⟩ := hc_l W C hv (hn_3 k3)
        obtain ⟨l', b, l1', l2', l3', b1, b2, b3, b4⟩ := hc_r W C hv (hn_3 k3) n5
        refine br_t k3 (xi_lft W C hm hv (hn_3 k3) (xi_key3 W C hm hv k3 ?_))
        rw [a2, b2]
        refine br_f (ha_ne1 (by omega)) (xl_held hG b1 hi (fun hb => br_f (by decide) (xl_learn a1 hi ?_)) (fun hb => br_t rfl ?_))
        · rw [st (fun x => x = a) ?_ ?_] at h
          · exact h
          · intro g hg
            constructor
            · rintro (⟨z, _⟩ | ⟨_, z, _⟩ | ⟨z, _⟩)
              · exact absurd z k2
              · exact ha_eq (z.symm.trans a2) (by omega) (by omega)
              · rw [k3] at z; exact absurd z (by decide)
            · rintro rfl
              exact Or.inr (Or.inl ⟨k3, a2, by rw [b4]; exact hb⟩)
          · rintro g rfl
            exact a1
        · rw [st0 ?_] at h
          · exact h
          · intro g hg
            rintro (⟨z, _⟩ | ⟨_, z, y⟩ | ⟨z, _⟩)
            · exact absurd z k2
            · rw [b4] at y
              exact hb y
            · rw [k3] at z; exact absurd z (by decide)
      · refine br_f k3 ?_
        by_cases k4 : K (m / 16) = 4
        · have n5 : ¬ K (m / 16) = 5 := by rw [k4]; decide
          obtain ⟨l, a, l1, l2, l3, a1, a2, a3, a4⟩ := hc_l W C hv (hn_4 k4)
          obtain ⟨l', b, l1', l2', l3', b1, b2, b3, b4⟩ := hc_r W C hv (hn_4 k4) n5
          refine br_t k4 (xi_lft W C hm hv (hn_4 k4) (xi_key4 W C hm hv k4 b1 b2 b3 (fun k5 => ?_) (fun k5 => br_t rfl ?_)))
          · obtain ⟨l'', d, l1'', l2'', l3'', d1, d2, d3, d4⟩ := hc_l W C (hc_g C b1 b3) (hn_5 k5)
            rw [a2, d2]
            refine br_f (ha_ne1 (by omega)) (xl_held hG d1 hi (fun hd => br_f (by decide) (xl_learn a1 hi ?_)) (fun hd => br_t rfl ?_))
            · rw [st (fun x => x = a) ?_ ?_] at h
              · exact h
              · intro g hg
                constructor
                · rintro (⟨z, _⟩ | ⟨z, _⟩ | ⟨_, z, _⟩)
                  · exact absurd z k2
                  · exact absurd z k3
                  · exact ha_eq (z.symm.trans a2) (by omega) (by omega)
                · rintro rfl
                  exact Or.inr (Or.inr ⟨k4, a2, by rw [b4]; exact k5, by rw [b4, d4]; exact hd⟩)
              · rintro g rfl
                exact a1
            · rw [st0 ?_] at h
              · exact h
              · intro g hg
                rintro (⟨z, _⟩ | ⟨z, _⟩ | ⟨_, z, _, y⟩)
                · exact absurd z k2
                · exact absurd z k3
                · rw [b4, d4] at y
                  exact hd y
          · rw [st0 ?_] at h
            · exact h
            · intro g hg
              rintro (⟨z, _⟩ | ⟨z, _⟩ | ⟨_, z, y, _⟩)
              · exact absurd z k2
              · exact absurd z k3
              · rw [b4] at y
                exact k5 y
        · refine br_f k4 ?_
          rw [st0 ?_] at h
          · exact h
          · intro g hg
            rintro (⟨z, _⟩ | ⟨z, _⟩ | ⟨z, _⟩)
            · exact absurd z k2
            · exact absurd z k3
            · exact absurd z k4
theorem xl_apart {post : St2 → Prop} (W : hp_W n c K L R) (C : hp_C n c K L R A) (hG : hp_G A Rk i) (hi : i < 1000)
    (h : post (fN, fT, fP, fp, fc, fe, fr, fs, nI (hp_k (hp_u Rk i (hp_X n K L R A r0 r1 rc Rk i 256 256 0 0)) 256), K, L, R, M, A, hp_u Rk i (hp_X n K L R A r0 r1 rc Rk i 256 256 0 0), E, r0, r1, rc, F)) :
    wpX_takeApart post (fN, fT, fP, fp, fc, fe, fr, fs, nI (hp_k (hp_u Rk i (hp_X n K L R A r0 r1 rc Rk i 256 0 0 0)) 256), K, L, R, M, A, hp_u Rk i (hp_X n K L R A r0 r1 rc Rk i 256 0 0 0), E, r0, r1, rc, F) (nI i) := by
  refine pk_loop (fun f m (_ : Unit) => wX_takeApart_2 post (nI i) f (nI m) fN fT fP fp fc fe fr fs (nI (hp_k (hp_u Rk i (hp_X n K L R A r0 r1 rc Rk i 256 m 0 0)) 256)) K L R M A (hp_u Rk i (hp_X n K L R A r0 r1 rc Rk i 256 m 0 0)) E r0 r1 rc F) (fun _ _ => True) 256 0 () (by omega) trivial ?_ ?_
  · intro f s _
    exact br_t (nI_le (a := 256) (b := 256) (by omega) (by decide)) h
  · intro f m s hm _ nx
    have nx := nx () trivial
    have n0 : ¬ (A m = nI m ∧ hp_H Rk i m) → ∀ x, x = nI m + 1 → wX_takeApart_2 post (nI i) f x fN fT fP fp fc fe fr fs (nI (hp_k (hp_u Rk i (hp_X n K L R A r0 r1 rc Rk i 256 m 0 0)) 256)) K L R M A (hp_u Rk i (hp_X n K L R A r0 r1 rc Rk i 256 m 0 0)) E r0 r1 rc F := fun z => by
      rw [hu_e (Rk := Rk) (i := i) (fun g => hx_t0 (n := n) (r0 := r0) (r1 := r1) (rc := rc) (mc := 256) (mt := m) (r := 0) (s := 0) (g := g) (fun g hg y => z ⟨y.1, y.2.1⟩))] at nx
      exact nm_r (nI_1 m) nx
    refine br_f (nI_ge (b := 256) hm (by decide)) (xi_gid hm (fun e => br_f (by decide) (xl_held hG hm hi (fun hH => br_f (by decide) (xl_one W C hG hi hm e hH (nm_r (nI_1 m) nx))) (fun hH => br_t rfl (n0 (fun z => hH z.2))))) (fun e => br_t rfl (n0 (fun z => e z.1))))
theorem xl_sup {post : Int32 → Prop} {x : Int32} {s : Nat} (W : hp_W n c K L R) (C : hp_C n c K L R A) (hG : hp_G A Rk i) (hi : i < 1000) (hx : x = -1 ∨ ∃ h, h < c ∧ x = nI h) (hs : s < 16) (hV : hp_V n s) (h1 : hp_m A Rk i x s → post 1) (h0 : ¬ hp_m A Rk i x s → post 0) : wpX_isSupplied post (fN, fT, fP, fp, fc, fe, fr, fs, fk, K, L, R, M, A, hp_u Rk i D, E, r0, r1, rc, F) x (nI s) (nI i) := by
  have w := W.2.2.1
  by_cases e : x = -1
  · exact br_t e (h1 (Or.inl e))
  · obtain ⟨h, hh, rfl⟩ := hx.resolve_left e
    have e1 : nI h * 16 + nI s = nI (h * 16 + s) := by rw [ha_16, nI_add]
    have e2 : (h * 16 + s) % 16 = s := by omega
    obtain ⟨a, a1, a2, a3, a4⟩ := hc_p W C (t := h * 16 + s) ⟨by omega, by rw [e2]; exact hV⟩
    refine br_f e ?_
    unfold hp_m at h1 h0
    rw [nI_clamp (by omega), a4] at h1 h0
    rw [e1, nI_clamp (by omega), a2]
    exact ⟨vp_in_nI (by omega) (by decide), xl_held hG a1 hi (fun z => br_f (by decide) (h1 (Or.inr z))) (fun z => br_t rfl (h0 (fun y => y.elim e z)))⟩
theorem xl_rules {post : St2 → Prop} {nr : Nat} (W : hp_W n c K L R) (C : hp_C n c K L R A) (hR : hp_R c nr r0 r1 rc) (h8 : nr ≤ 8) (hG : hp_G A Rk i) (hi : i < 1000)
    (h : post (nI n, fT, fP, fp, fc, fe, nI nr, fs, nI (hp_k (hp_u Rk i (hp_X n K L R A r0 r1 rc Rk i 256 256 nr 0)) 256), K, L, R, M, A, hp_u Rk i (hp_X n K L R A r0 r1 rc Rk i 256 256 nr 0), E, r0, r1, rc, F)) :
    wpX_applyRules post (nI n, fT, fP, fp, fc, fe, nI nr, fs, nI (hp_k (hp_u Rk i (hp_X n K L R A r0 r1 rc Rk i 256 256 0 0)) 256), K, L, R, M, A, hp_u Rk i (hp_X n K L R A r0 r1 rc Rk i 256 256 0 0), E, r0, r1, rc, F) (nI i) := by
  have w := W.2.2.1
  have w4 := W.2.1
  refine pk_loop (fun f r (_ : Unit) => wX_applyRules_2 post (nI i) f (nI r) (nI n) fT fP fp fc fe (nI nr) fs (nI (hp_k (hp_u Rk i (hp_X n K L R A r0 r1 rc Rk i 256 256 r 0)) 256)) K L R M A (hp_u Rk i (hp_X n K L R A r0 r1 rc Rk i 256 256 r 0)) E r0 r1 rc F) (fun _ _ => True) nr 0 () (by omega) trivial ?_ ?_
  · intro f s _
    exact br_t (nI_le (Nat.le_refl _) (by omega)) h
  · intro f r s hr _ nx
    have nx := nx () trivial
    have hin : vp_in (nI r) 8 := vp_in_nI (by omega) (by decide)
    have hcl : (nI r).toNatClampNeg = r := nI_clamp (by omega)
    obtain ⟨o1, o2, hc, hcc, ec⟩ := hR r hr
    refine br_f (nI_ge hr (by omega)) ?_
    refine pk_loop (fun f' vy (_ : Unit) => wX_applyRules_12 post (wX_applyRules_2 post (nI i) f) (nI i) (nI r) f' (nI vy) (nI n) fT fP fp fc fe (nI nr) fs (nI (hp_k (hp_u Rk i (hp_X n K L R A r0 r1 rc Rk i 256 256 r (4 * vy))) 256)) K L R M A (hp_u Rk i (hp_X n K L R A r0 r1 rc Rk i 256 256 r (4 * vy))) E r0 r1 rc F) (fun _ _ => True) n 0 () (by omega) trivial ?_ ?_
    · intro f' s _
      rw [hu_e (Rk := Rk) (i := i) (fun g => hx_rn (n := n) (K := K) (L := L) (R := R) (A := A) (r0 := r0) (r1 := r1) (rc := rc) (mc := 256) (mt := 256) (r := r) (s := 4 * n) (g := g) (fun x h1 h2 z => by have := z.2; omega))] at nx
      exact br_t (nI_le (Nat.le_refl _) (by omega)) (nm_r (nI_1 r) nx)
    · intro f' vy s hvy _ ny
      have ny := ny () trivial
      refine br_f (nI_ge hvy (by omega)) ?_
      refine pk_loop (fun f'' vx (_ : Unit) => wX_applyRules_23 post (wX_applyRules_2 post (nI i) f) (wX_applyRules_12 post (wX_applyRules_2 post (nI i) f) (nI i) (nI r) f') (nI i) (nI r) (nI vy) f'' (nI vx) (nI n) fT fP fp fc fe (nI nr) fs (nI (hp_k (hp_u Rk i (hp_X n K L R A r0 r1 rc Rk i 256 256 r (4 * vy + vx))) 256)) K L R M A (hp_u Rk i (hp_X n K L R A r0 r1 rc Rk i 256 256 r (4 * vy + vx))) E r0 r1 rc F) (fun _ _ => True) n 0 () (by omega) trivial ?_ ?_
      · intro f'' s _
        rw [hu_e (Rk := Rk) (i := i) (fun g => hx_rs (n := n) (K := K) (L := L) (R := R) (A := A) (r0 := r0) (r1 := r1) (rc := rc) (mc := 256) (mt := 256) (r := r) (s := 4 * vy + n) (s2 := 4 * (vy + 1)) (g := g) (by omega) (fun x h1 h2 h3 z => by have := z.1; omega))] at ny
        exact br_t (nI_le (Nat.le_refl _) (by omega)) (nm_r (nI_1 vy) ny)
      · intro f'' vx s hvx _ nz
        have nz := nz () trivial
        have hV : hp_V n (4 * vy + vx) := ⟨by omega, by omega⟩
        have em : nI vx + 4 * nI vy = nI (4 * vy + vx) := by
          rw [ha_4, nI_add]
          exact congrArg nI (by omega)
        have e2 : (hc * 16 + (4 * vy + vx)) % 16 = 4 * vy + vx := by omega
        obtain ⟨a, a1, a2, a3, a4⟩ := hc_p W C (t := hc * 16 + (4 * vy + vx)) ⟨by omega, by rw [e2]; exact hV⟩
        have ef : ∀ g, g < 256 → (hp_F n A r0 r1 rc Rk i r (4 * vy + vx) g ↔ ((hp_m A Rk i (r0 r) (4 * vy + vx) ∧ hp_m A Rk i (r1 r) (4 * vy + vx)) ∧ g = a)) := fun g hg => by
          unfold hp_F
          rw [ec, nI_clamp (by omega), a2]
          constructor
          · rintro ⟨_, z, y⟩
            exact ⟨y, ha_eq z.symm (by omega) (by omega)⟩
          · rintro ⟨y, rfl⟩
            exact ⟨hV, rfl, y⟩
        have n0 : ¬ (hp_m A Rk i (r0 r) (4 * vy + vx) ∧ hp_m A Rk i (r1 r) (4 * vy + vx)) → ∀ x, x = nI vx + 1 → wX_applyRules_23 post (wX_applyRules_2 post (nI i) f) (wX_applyRules_12 post (wX_applyRules_2 post (nI i) f) (nI i) (nI r) f') (nI i) (nI r) (nI vy) f'' x (nI n) fT fP fp fc fe (nI nr) fs (nI (hp_k (hp_u Rk i (hp_X n K L R A r0 r1 rc Rk i 256 256 r (4 * vy + vx))) 256)) K L R M A (hp_u Rk i (hp_X n K L R A r0 r1 rc Rk i 256 256 r (4 * vy + vx))) E r0 r1 rc F := fun z => by
          have e0 : hp_u Rk i (hp_X n K L R A r0 r1 rc Rk i 256 256 r (4 * vy + (vx + 1))) = hp_u Rk i (hp_X n K L R A r0 r1 rc Rk i 256 256 r (4 * vy + vx)) := by
            refine hu_e (fun g => (hx_r (s := 4 * vy + vx) (fun _ => False) (by omega) (fun g hg => ?_) (fun g y => y.elim)).trans ⟨fun y => y.elim id (fun u => u.elim), Or.inl⟩)
            rw [ef g hg]
            exact ⟨fun y => z y.1, fun y => y.elim⟩
          rw [e0] at nz
          exact nm_r (nI_1 vx) nz
        refine br_f (nI_ge hvx (by omega)) (nm_r em ⟨hin, ?_⟩)
        rw [hcl]
        refine xl_sup W C hG hi o1 (by omega) hV (fun m1 => br_f (by decide) ⟨hin, xl_sup W C hG hi o2 (by omega) hV (fun m2 => br_f (by decide) ⟨hin, ?_⟩) (fun m2 => br_t rfl (n0 (fun z => m2 z.2)))⟩) (fun m1 => br_t rfl (n0 (fun z => m1 z.1)))
        have e1 : rc r * 16 + nI (4 * vy + vx) = nI (hc * 16 + (4 * vy + vx)) := by rw [ec, ha_16, nI_add]
        rw [e1, nI_clamp (n := hc * 16 + (4 * vy + vx)) (by omega), a2]
        refine ⟨vp_in_nI (by omega) (by decide), xl_learn a1 hi ?_⟩
        have e3 : hp_u Rk i (hp_X n K L R A r0 r1 rc Rk i 256 256 r (4 * vy + (vx + 1))) = hp_u Rk i (fun x => hp_X n K L R A r0 r1 rc Rk i 256 256 r (4 * vy + vx) x ∨ x = a) := by
          refine hu_e (fun g => hx_r (s := 4 * vy + vx) (fun x => x = a) (by omega) (fun g hg => ?_) (fun g y => by rw [y]; exact a1))
          rw [ef g hg]
          exact ⟨fun y => y.2, fun y => ⟨⟨m1, m2⟩, y⟩⟩
        rw [e3] at nz
        exact nm_r (nI_1 vx) nz
end HP
end
section
/-! saturate -/
def hp_e0 (Z A E : Nat → Int32) : Nat → Nat → Int32
  | 0 => Z
  | e + 1 => upd (hp_e0 Z A E e) (hp_i A ((E e).toNatClampNeg * 16)) 0
section HQ
variable {Rk Z A E K L R r0 r1 rc : Nat → Int32} {n c i g ne nr : Nat} {D : Nat → Prop}
theorem hs_no (h : ∀ x, x < 256 → ¬ (Rk x = -1 ∧ D x)) (hD : ∀ g, D g → g < 256) : hp_u Rk i D = Rk := by
  funext x
  by_cases d : D x
  · exact hu_3 (fun z => h x (hD x d) ⟨z, d⟩)
  · exact hu_2 d
theorem hs_new (hi : i < 1000) (he : hp_k (hp_u Rk i D) 256 = hp_k Rk 256) : ∀ x, x < 256 → ¬ (Rk x = -1 ∧ D x) := by
  intro x hx z
  have := hk_e (m := 256) (Rk := Rk) (Rk' := hp_u Rk i D) (fun g _ => hu_m hi) he x hx z.1
  rw [hu_1 z.1 z.2] at this
  exact ha_ne1 (by omega) this
theorem he_x (W : hp_W n c K L R) (C : hp_C n c K L R A) {e : Nat} (hE : ∃ h, h < c ∧ E e = nI h) : ∃ h x, h < 16 ∧ E e = nI h ∧ x < 256 ∧ A (h * 16) = nI x ∧ A x = nI x ∧ hp_i A ((E e).toNatClampNeg * 16) = x := by
  obtain ⟨h, hh, eh⟩ := hE
  have w := W.2.2.1
  have w1 := W.1
  have e2 : (h * 16) % 16 = 0 := by omega
  obtain ⟨x, x1, x2, x3, x4⟩ := hc_p W C (t := h * 16) ⟨by omega, by rw [e2]; exact ⟨by omega, by omega⟩⟩
  exact ⟨h, x, by omega, eh, x1, x2, x3, by rw [eh, nI_clamp (by omega)]; exact x4⟩
theorem he_G (W : hp_W n c K L R) (C : hp_C n c K L R A) (hE : ∀ e, e < ne → ∃ h, h < c ∧ E e = nI h) (hz : ∀ g, g < 256 → Z g = -1) : ∀ e, e ≤ ne → hp_G A (hp_e0 Z A E e) 0 := by
  intro e
  induction e with
  | zero => exact fun _ g hg => Or.inl (hz g hg)
  | succ e ih =>
    intro he g hg
    obtain ⟨h, x, h1, h2, x1, x2, x3, x4⟩ := he_x W C (hE e (by omega))
    show upd (hp_e0 Z A E e) (hp_i A ((E e).toNatClampNeg * 16)) 0 g = -1 ∨ (A g = nI g ∧ ∃ j, j ≤ 0 ∧ upd (hp_e0 Z A E e) (hp_i A ((E e).toNatClampNeg * 16)) 0 g = nI j)
    rw [x4]
    by_cases eg : g = x
    · subst eg
      exact Or.inr ⟨x3, 0, Nat.le_refl _, pk_us⟩
    · rw [pk_un eg]
      exact ih (by omega) g hg
theorem hi_G (R0 : Nat → Int32) (h : hp_G A R0 0) : ∀ i, hp_G A (hp_it R0 (hp_D n nr K L R A r0 r1 rc) i) i := by
  intro i
  induction i with
  | zero => exact h
  | succ i ih => exact hg_s (fun g d => d.2.1) ih
theorem hk_00 (m : Nat) (h : ∀ g, g < m → Z g = -1) : hp_k Z m = 0 := by
  induction m with
  | zero => rfl
  | succ m ih =>
    show hp_k Z m + (if Z m = -1 then 0 else 1) = 0
    rw [ih (fun g hg => h g (by omega)), if_pos (h m (by omega))]
end HQ
section HXS
variable {fN fT fP fp fc fe fr fs fk : Int32} {K L R M A Z E r0 r1 rc F : Nat → Int32} {Rk : Nat → Int32} {n c i f nr ne : Nat}
theorem xl_55 {post : Int32 → St2 → Prop} {R0 : Nat → Int32} (W : hp_W n c K L R) (C : hp_C n c K L R A) (hR : hp_R c nr r0 r1 rc) (h8 : nr ≤ 8) (hG : hp_G A R0 0) (hf : f ≤ 256)
    (fe1 : hp_k (hp_it R0 (hp_D n nr K L R A r0 r1 rc) (f + 1)) 256 = hp_k (hp_it R0 (hp_D n nr K L R A r0 r1 rc) f) 256)
    (fl : ∀ j, j < f → hp_k (hp_it R0 (hp_D n nr K L R A r0 r1 rc) j) 256 < hp_k (hp_it R0 (hp_D n nr K L R A r0 r1 rc) (j + 1)) 256)
    (h : post (nI (hp_k (hp_it R0 (hp_D n nr K L R A r0 r1 rc) (f + 1)) 256)) (nI n, fT, fP, fp, fc, fe, nI nr, fs, nI (hp_k (hp_it R0 (hp_D n nr K L R A r0 r1 rc) (f + 1)) 256), K, L, R, M, A, hp_it R0 (hp_D n nr K L R A r0 r1 rc) (f + 1), E, r0, r1, rc, F)) :
    ∀ d i, i + d = f → wX_saturate_55 post (d + 2) 1 (nI i) (nI n) fT fP fp fc fe (nI nr) fs (nI (hp_k (hp_it R0 (hp_D n nr K L R A r0 r1 rc) i) 256)) K L R M A (hp_it R0 (hp_D n nr K L R A r0 r1 rc) i) E r0 r1 rc F := by
  have rnd : ∀ (post : St2 → Prop) i, i < 1000 → post (nI n, fT, fP, fp, fc, fe, nI nr, fs, nI (hp_k (hp_it R0 (hp_D n nr K L R A r0 r1 rc) (i + 1)) 256), K, L, R, M, A, hp_it R0 (hp_D n nr K L R A r0 r1 rc) (i + 1), E, r0, r1, rc, F) → wpX_applyRules post (nI n, fT, fP, fp, fc, fe, nI nr, fs, nI (hp_k (hp_u (hp_it R0 (hp_D n nr K L R A r0 r1 rc) i) i (hp_X n K L R A r0 r1 rc (hp_it R0 (hp_D n nr K L R A r0 r1 rc) i) i 256 256 0 0)) 256), K, L, R, M, A, hp_u (hp_it R0 (hp_D n nr K L R A r0 r1 rc) i) i (hp_X n K L R A r0 r1 rc (hp_it R0 (hp_D n nr K L R A r0 r1 rc) i) i 256 256 0 0), E, r0, r1, rc, F) (nI i) := fun post i hi hp => by
    refine xl_rules W C hR h8 (hi_G R0 hG i) hi ?_
    have e : hp_u (hp_it R0 (hp_D n nr K L R A r0 r1 rc) i) i (hp_X n K L R A r0 r1 rc (hp_it R0 (hp_D n nr K L R A r0 r1 rc) i) i 256 256 nr 0) = hp_it R0 (hp_D n nr K L R A r0 r1 rc) (i + 1) := hu_e (fun g => hx_D W C hR)
    rw [e]
    exact hp
  have bd : ∀ i, hp_k (hp_it R0 (hp_D n nr K L R A r0 r1 rc) i) 256 < 2 ^ 31 := fun i => Nat.lt_of_le_of_lt hk_le (by decide)
  intro d
  induction d with
  | zero =>
    intro i hi
    have e : i = f := by omega
    subst e
    refine br_f (by decide) (br_f (nI_nlt (b := i) (a := 256) hf (by omega)) (xl_comp W C (hi_G R0 hG i) (by omega) (xl_apart W C (hi_G R0 hG i) (by omega) (rnd _ i (by omega) ?_))))
    refine br_t (nI_le (by omega) (bd _)) (nm_r (nI_1 i) (br_t rfl h))
  | succ d ih =>
    intro i hi
    refine br_f (by decide) (br_f (nI_nlt (b := i) (a := 256) (by omega) (by omega)) (xl_comp W C (hi_G R0 hG i) (by omega) (xl_apart W C (hi_G R0 hG i) (by omega) (rnd _ i (by omega) ?_))))
    refine br_f (nI_ge (fl i (by omega)) (bd _)) (nm_r (nI_1 i) (ih (i + 1) (by omega)))
theorem xl_18 {post : Int32 → St2 → Prop} (W : hp_W n c K L R) (C : hp_C n c K L R A) (hE : ∀ e, e < ne → ∃ h, h < c ∧ E e = nI h) (h8 : ne ≤ 8) (hz : ∀ g, g < 256 → Z g = -1)
    (h : ∃ f, wX_saturate_55 post f 1 0 fN fT fP fp fc (nI ne) fr fs (nI (hp_k (hp_e0 Z A E ne) 256)) K L R M A (hp_e0 Z A E ne) E r0 r1 rc F) :
    ∃ f, wX_saturate_18 post f 0 fN fT fP fp fc (nI ne) fr fs 0 K L R M A Z E r0 r1 rc F := by
  have z0 : nI (hp_k (hp_e0 Z A E 0) 256) = 0 := by
    rw [show hp_e0 Z A E 0 = Z from rfl, hk_00 256 hz]
    rfl
  have go : ∃ f, wX_saturate_18 post f (nI 0) fN fT fP fp fc (nI ne) fr fs (nI (hp_k (hp_e0 Z A E 0) 256)) K L R M A (hp_e0 Z A E 0) E r0 r1 rc F := by
    refine pk_loop (fun f e (_ : Unit) => wX_saturate_18 post f (nI e) fN fT fP fp fc (nI ne) fr fs (nI (hp_k (hp_e0 Z A E e) 256)) K L R M A (hp_e0 Z A E e) E r0 r1 rc F) (fun _ _ => True) ne 0 () (by omega) trivial ?_ ?_
    · intro f s _
      exact br_t (nI_le (Nat.le_refl _) (by omega)) h
    · intro f e s he _ nx
      have nx := nx () trivial
      obtain ⟨h0, x, h1, h2, x1, x2, x3, x4⟩ := he_x W C (hE e he)
      have hG := he_G (Z := Z) W C hE hz e (by omega)
      have hin : vp_in (nI x) 256 := vp_in_nI x1 (by decide)
      have hcl : (nI x).toNatClampNeg = x := nI_clamp (by omega)
      have e1 : hp_e0 Z A E (e + 1) = upd (hp_e0 Z A E e) x 0 := by
        show upd (hp_e0 Z A E e) (hp_i A ((E e).toNatClampNeg * 16)) 0 = _
        rw [x4]
      refine br_f (nI_ge he (by omega)) ⟨vp_in_nI (by omega) (by decide), ?_⟩
      rw [nI_clamp (n := e) (by omega), h2, ha_16, nI_clamp (n := h0 * 16) (by omega), x2]
      refine ⟨vp_in_nI (by omega) (by decide), hin, ?_⟩
      rw [hcl]
      by_cases d : hp_e0 Z A E e x = -1
      · have e2 : hp_k (hp_e0 Z A E (e + 1)) 256 = hp_k (hp_e0 Z A E e) 256 + 1 := by
          rw [e1]
          exact hk_u x1 d (by decide)
        exact br_t d ⟨hin, nm_r (e' := hp_e0 Z A E (e + 1)) e1.symm (nm_r (e' := nI (hp_k (hp_e0 Z A E (e + 1)) 256)) (by rw [e2, nI_1]) (nm_r (nI_1 e) nx))⟩
      · have e2 : hp_e0 Z A E (e + 1) = hp_e0 Z A E e := by
          rw [e1]
          funext y
          by_cases ey : y = x
          · subst ey
            rw [pk_us]
            rcases hG y x1 with a | ⟨_, j, b, e'⟩
            · exact absurd a d
            · have : j = 0 := by omega
              subst this
              exact e'.symm
          · exact pk_un ey
        rw [e2] at nx
        exact br_f d (nm_r (nI_1 e) nx)
  rw [z0] at go
  exact go
end HXS
section HYS
end HYS
end
section
/-! what the ranks say in the end -/
section HRK
variable {Rk Z A E K L R r0 r1 rc : Nat → Int32} {n c i j g ne nr : Nat} {D : Nat → Prop}
theorem hu_H2 (hij : i ≤ j) (hj : j < 1000) : hp_H (hp_u Rk j D) i g ↔ hp_H Rk i g := by
  by_cases h : Rk g = -1
  · by_cases d : D g
    · unfold hp_H
      rw [hu_1 h d, h]
      constructor
      · rintro ⟨x, a, b⟩
        have := ha_eq b (by omega) (by omega)
        omega
      · rintro ⟨x, a, b⟩
        exact absurd b.symm (ha_ne1 (by omega))
    · unfold hp_H
      rw [hu_2 d]
  · unfold hp_H
    rw [hu_3 h]
theorem hi_H (R0 : Nat → Int32) (DD : (Nat → Int32) → Nat → Nat → Prop) (i g : Nat) : ∀ d, i + d < 1000 → (hp_H (hp_it R0 DD (i + d)) i g ↔ hp_H (hp_it R0 DD i) i g) := by
  intro d
  induction d with
  | zero => exact fun _ => Iff.rfl
  | succ d ih =>
    intro hd
    exact (hu_H2 (j := i + d) (by omega) (by omega)).trans (ih (by omega))
theorem hD_c {Rk' : Nat → Int32} {i' : Nat} (h : ∀ x, hp_H Rk i x ↔ hp_H Rk' i' x) : hp_D n nr K L R A r0 r1 rc Rk i g → hp_D n nr K L R A r0 r1 rc Rk' i' g := by
  have hm : ∀ x s, hp_m A Rk i x s → hp_m A Rk' i' x s := fun x s z => z.imp id (h _).mp
  rintro ⟨a, b, ⟨e, na, l, r⟩ | ⟨t, t1, t2, t3, t4⟩ | ⟨r, s, a1, a2, a3, a4, a5, a6⟩⟩
  · exact ⟨a, b, Or.inl ⟨e, na, (h _).mp l, r.imp id (h _).mp⟩⟩
  · refine ⟨a, b, Or.inr (Or.inl ⟨t, t1, t2, (h _).mp t3, ?_⟩)⟩
    rcases t4 with z | ⟨z1, z2, z3⟩ | ⟨z1, z2, z3, z4⟩
    · exact Or.inl z
    · exact Or.inr (Or.inl ⟨z1, z2, (h _).mp z3⟩)
    · exact Or.inr (Or.inr ⟨z1, z2, z3, (h _).mp z4⟩)
  · exact ⟨a, b, Or.inr (Or.inr ⟨r, s, a1, a2, a3, a4, hm _ _ a5, hm _ _ a6⟩)⟩
theorem hi_r (R0 : Nat → Int32) (DD : (Nat → Int32) → Nat → Nat → Prop) (h0 : ¬ R0 g = nI (i + 1)) (hi : i < 1000) : ∀ j, j < 1000 → hp_it R0 DD j g = nI (i + 1) → DD (hp_it R0 DD i) i g := by
  intro j
  induction j with
  | zero => exact fun _ z => absurd z h0
  | succ j ih =>
    intro hj z
    have z' : hp_u (hp_it R0 DD j) j (DD (hp_it R0 DD j) j) g = nI (i + 1) := z
    by_cases h : hp_it R0 DD j g = -1
    · by_cases d : DD (hp_it R0 DD j) j g
      · rw [hu_1 h d] at z'
        have e : j + 1 = i + 1 := ha_eq z' (by omega) (by omega)
        have e : j = i := by omega
        rw [← e]; exact d
      · rw [hu_2 d, h] at z'
        exact absurd z'.symm (ha_ne1 (by omega))
    · rw [hu_3 h] at z'
      exact ih (by omega) z'
theorem hi_0 (R0 : Nat → Int32) (DD : (Nat → Int32) → Nat → Nat → Prop) : ∀ j, j < 1000 → hp_it R0 DD j g = nI 0 → R0 g = nI 0 := by
  intro j
  induction j with
  | zero => exact fun _ z => z
  | succ j ih =>
    intro hj z
    have z' : hp_u (hp_it R0 DD j) j (DD (hp_it R0 DD j) j) g = nI 0 := z
    by_cases h : hp_it R0 DD j g = -1
    · by_cases d : DD (hp_it R0 DD j) j g
      · rw [hu_1 h d] at z'
        have := ha_eq z' (by omega) (by omega)
        omega
      · rw [hu_2 d, h] at z'
        exact absurd z'.symm (ha_ne1 (by omega))
    · rw [hu_3 h] at z'
      exact ih (by omega) z'
/-- what has a rank keeps it -/
theorem hi_k (R0 : Nat → Int32) (DD : (Nat → Int32) → Nat → Nat → Prop) (h : ¬ R0 g = -1) : ∀ j, hp_it R0 DD j g = R0 g := by
  intro j
  induction j with
  | zero => rfl
  | succ j ih =>
    show hp_u (hp_it R0 DD j) j (DD (hp_it R0 DD j) j) g = R0 g
    rw [hu_3 (by rw [ih]; exact h), ih]
theorem he_t (W : hp_W n c K L R) (C : hp_C n c K L R A) (hE : ∀ e, e < ne → ∃ h, h < c ∧ E e = nI h) (hzt : ∀ g, 256 ≤ g → Z g = 0) : ∀ e, e ≤ ne → ∀ g, 256 ≤ g → hp_e0 Z A E e g = 0 := by
  intro e
  induction e with
  | zero => exact fun _ => hzt
  | succ e ih =>
    intro he g hg
    obtain ⟨h, x, h1, h2, x1, x2, x3, x4⟩ := he_x W C (hE e (by omega))
    show upd (hp_e0 Z A E e) (hp_i A ((E e).toNatClampNeg * 16)) 0 g = 0
    rw [x4, pk_un (by omega)]
    exact ih (by omega) g hg
theorem he_0 (W : hp_W n c K L R) (C : hp_C n c K L R A) (hE : ∀ e, e < ne → ∃ h, h < c ∧ E e = nI h) (hz : ∀ g, g < 256 → Z g = -1) (hg : g < 256) : ∀ e, e ≤ ne → ¬ hp_e0 Z A E e g = -1 → ∃ e', e' < e ∧ A ((E e').toNatClampNeg * 16) = nI g := by
  intro e
  induction e with
  | zero => exact fun _ z => absurd (hz g hg) z
  | succ e ih =>
    intro he z
    obtain ⟨h, x, h1, h2, x1, x2, x3, x4⟩ := he_x W C (hE e (by omega))
    have z' : ¬ upd (hp_e0 Z A E e) (hp_i A ((E e).toNatClampNeg * 16)) 0 g = -1 := z
    rw [x4] at z'
    by_cases eg : g = x
    · subst eg
      exact ⟨e, by omega, by rw [h2, nI_clamp (by omega)]; exact x2⟩
    · rw [pk_un eg] at z'
      obtain ⟨e', a, b⟩ := ih (by omega) z'
      exact ⟨e', by omega, b⟩
theorem he_1 {e' : Nat} : ∀ e, e' < e → hp_e0 Z A E e (hp_i A ((E e').toNatClampNeg * 16)) = 0 := by
  intro e
  induction e with
  | zero => intro h; omega
  | succ e ih =>
    intro h
    show upd (hp_e0 Z A E e) (hp_i A ((E e).toNatClampNeg * 16)) 0 (hp_i A ((E e').toNatClampNeg * 16)) = 0
    by_cases e1 : hp_i A ((E e').toNatClampNeg * 16) = hp_i A ((E e).toNatClampNeg * 16)
    · rw [e1, pk_us]
    · rw [pk_un e1]
      by_cases e2 : e' = e
      · subst e2
        exact absurd rfl e1
      · exact ih (by omega)
/-- the ranks at rest: ranked ids are ground, the set is closed, each rank has its reason -/
def hp_Y (n nr ne : Nat) (K L R A r0 r1 rc E Z : Nat → Int32) : Prop :=
  hp_G A Z 299 ∧ (∀ g, hp_D n nr K L R A r0 r1 rc Z 300 g → ¬ Z g = -1) ∧
  (∀ g, g < 256 → Z g = nI 0 → ∃ e, e < ne ∧ A ((E e).toNatClampNeg * 16) = nI g) ∧
  (∀ i g, g < 256 → i < 300 → Z g = nI (i + 1) → hp_D n nr K L R A r0 r1 rc Z i g) ∧
  (∀ e, e < ne → Z (hp_i A ((E e).toNatClampNeg * 16)) = 0)
theorem hY_of {f : Nat} (W : hp_W n c K L R) (C : hp_C n c K L R A) (hE : ∀ e, e < ne → ∃ h, h < c ∧ E e = nI h) (hz : ∀ g, g < 256 → Z g = -1) (hzt : ∀ g, 256 ≤ g → Z g = 0) (hf : f ≤ 256)
    (fe1 : hp_k (hp_it (hp_e0 Z A E ne) (hp_D n nr K L R A r0 r1 rc) (f + 1)) 256 = hp_k (hp_it (hp_e0 Z A E ne) (hp_D n nr K L R A r0 r1 rc) f) 256) :
    hp_Y n nr ne K L R A r0 r1 rc E (hp_it (hp_e0 Z A E ne) (hp_D n nr K L R A r0 r1 rc) (f + 1)) := by
  have hG := he_G (Z := Z) W C hE hz ne (Nat.le_refl _)
  have hGi := hi_G (n := n) (nr := nr) (K := K) (L := L) (R := R) (r0 := r0) (r1 := r1) (rc := rc) _ hG
  have ht := he_t W C hE hzt ne (Nat.le_refl _)
  have no := hs_new (Rk := hp_it (hp_e0 Z A E ne) (hp_D n nr K L R A r0 r1 rc) f) (D := hp_D n nr K L R A r0 r1 rc (hp_it (hp_e0 Z A E ne) (hp_D n nr K L R A r0 r1 rc) f) f) (i := f) (by omega) fe1
  have eqf : hp_it (hp_e0 Z A E ne) (hp_D n nr K L R A r0 r1 rc) (f + 1) = hp_it (hp_e0 Z A E ne) (hp_D n nr K L R A r0 r1 rc) f := hs_no no (fun g d => d.1)
  refine ⟨?_, ?_, ?_, ?_, ?_⟩
  · intro g hg
    rcases hGi (f + 1) g hg with a | ⟨a, j, b, e⟩
    · exact Or.inl a
    · exact Or.inr ⟨a, j, by omega, e⟩
  · intro g d z
    rw [eqf] at d z
    refine no g d.1 ⟨z, hD_c (fun x => ?_) d⟩
    constructor
    · rintro ⟨j, a, b⟩
      by_cases hx : x < 256
      · rcases hGi f x hx with y | ⟨_, j', b', e'⟩
        · rw [y] at b
          exact absurd b.symm (ha_ne1 (by omega))
        · exact ⟨j', b', e'⟩
      · refine ⟨0, by omega, ?_⟩
        have t0 := ht x (by omega)
        rw [hi_k _ _ (by rw [t0]; decide), t0]
        rfl
    · rintro ⟨j, a, b⟩
      exact ⟨j, by omega, b⟩
  · intro g hg z
    have z0 := hi_0 _ _ (f + 1) (by omega) z
    exact he_0 W C hE hz hg ne (Nat.le_refl _) (by rw [z0]; exact ha_ne1 (by omega))
  · intro i g hg hi z
    have hb : i ≤ f := by
      rcases hGi (f + 1) g hg with a | ⟨_, j, b, e⟩
      · rw [z] at a
        exact absurd a (ha_ne1 (by omega))
      · have := ha_eq (z.symm.trans e) (by omega) (by omega)
        omega
    have d := hi_r (g := g) (i := i) _ _ (fun y => ?_) (by omega) (f + 1) (by omega) z
    · refine hD_c (fun x => ?_) d
      have := hi_H (hp_e0 Z A E ne) (hp_D n nr K L R A r0 r1 rc) i x (f + 1 - i) (by omega)
      rw [show i + (f + 1 - i) = f + 1 by omega] at this
      exact this.symm
    · rcases hG g hg with a | ⟨_, j, b, e⟩
      · rw [y] at a
        exact absurd a (ha_ne1 (by omega))
      · have := ha_eq (y.symm.trans e) (by omega) (by omega)
        omega
  · intro e he
    have := he_1 (Z := Z) (A := A) (E := E) (e' := e) ne he
    rw [hi_k _ _ (by rw [this]; decide), this]
end HRK
end
section
/-! X's states, and what its calls do to them before saturate -/
def hx_J (n c ne nr ns : Nat) (ph kn : Int32) (K L R M A Z E r0 r1 rc F : Nat → Int32) : Prop :=
  (hp_W n c K L R ∧ n ≤ c ∧ c ≤ 16 ∧ ne ≤ 8 ∧ nr ≤ 8 ∧ ns ≤ 32) ∧
  (hp_C n c K L R A ∧ (∀ p, 256 ≤ p → A p = 0) ∧ hp_M c K L R M ∧ (∀ h, 16 ≤ h → M h = 0)) ∧
  ((∀ e, e < ne → ∃ h, h < c ∧ E e = nI h) ∧ hp_R c nr r0 r1 rc ∧ (∀ r, r < nr → M (rc r).toNatClampNeg &&& ((hp_rv M (r0 r) ||| hp_rv M (r1 r)) ^^^ (-1)) = 0)) ∧
  ((ph = 0 ∧ ns = 0 ∧ kn = 0 ∧ (∀ g, g < 256 → Z g = -1) ∧ ∀ g, 256 ≤ g → Z g = 0) ∨
    (ph = 1 ∧ hp_Y n nr ne K L R A r0 r1 rc E Z ∧ kn = nI (hp_k Z 256) ∧ ∀ j, j < ns → ∃ g, g < 256 ∧ F j = nI g ∧ A g = nI g ∧ ¬ Z g = -1))
section HB
variable {n c ne nr ns : Nat} {ph kn : Int32} {K L R M A Z E r0 r1 rc F : Nat → Int32} {mc ms kc ks : Nat}
theorem hj_b (J : hx_J n c ne nr ns ph kn K L R M A Z E r0 r1 rc F) : n ≤ 4 ∧ n ≤ c ∧ c ≤ 16 ∧ ne ≤ 8 ∧ nr ≤ 8 ∧ ns ≤ 32 ∧ 2 ≤ n := ⟨J.1.1.2.1, J.1.2.1, J.1.2.2.1, J.1.2.2.2.1, J.1.2.2.2.2.1, J.1.2.2.2.2.2, J.1.1.1⟩
theorem lx_194 {post : St2 → Prop} (h2 : 2 ≤ n) (h4 : n ≤ 4)
    (h : ∀ A M, hp_C n n (hp_k0 n) (hp_l0 n) (hp_r0 n) A → (∀ p, 256 ≤ p → A p = 0) → hp_M n (hp_k0 n) (hp_l0 n) (hp_r0 n) M → (∀ p, 16 ≤ p → M p = 0) → post (nI n, 16, 32, ph, nI n, nI ne, nI nr, nI ns, kn, hp_k0 n, hp_l0 n, hp_r0 n, M, A, Z, E, r0, r1, rc, F)) :
    ∃ f, wX_init_194 post mc ms kc ks f 0 (nI n) 16 32 ph 0 (nI ne) (nI nr) (nI ns) kn (fun _ => 0) (fun _ => 0) (fun _ => 0) (fun _ => 0) (hp_neg 256) Z E r0 r1 rc F := by
  refine pk_loop (fun f i (s : (Nat → Int32) × (Nat → Int32)) => wX_init_194 post mc ms kc ks f (nI i) (nI n) 16 32 ph (nI i) (nI ne) (nI nr) (nI ns) kn (hp_k0 i) (hp_l0 i) (hp_r0 i) (s.1) (s.2) Z E r0 r1 rc F)
    (fun i s => hp_C n i (hp_k0 i) (hp_l0 i) (hp_r0 i) s.2 ∧ (∀ p, 256 ≤ p → s.2 p = 0) ∧ hp_M i (hp_k0 i) (hp_l0 i) (hp_r0 i) s.1 ∧ (∀ p, 16 ≤ p → s.1 p = 0)) n 0 (fun _ => 0, hp_neg 256) (by omega) ⟨?_, ?_, ?_, ?_⟩ ?_ ?_
  · exact fun p hp => ⟨fun z => absurd z (Nat.not_lt_zero _), fun _ => hn_lo hp⟩
  · exact fun p hp => hn_hi hp
  · exact fun x hx => (if_pos (Or.inl (Nat.zero_le x))).symm
  · exact fun p hp => rfl
  · intro f s hs
    exact br_t (nI_le (Nat.le_refl _) (by omega)) (h s.2 s.1 hs.1 hs.2.1 hs.2.2.1 hs.2.2.2)
  · intro f i s hi hs nx
    refine br_f (nI_ge hi (by omega)) (xi_add (hw_0 h2 h4 i (by omega)) (by omega) (Or.inl ⟨hi, rfl, rfl, rfl⟩) hs.1 hs.2.1 hs.2.2.1 hs.2.2.2 ?_)
    intro A' M' g1 g2 g3 g4
    exact nm_r (nI_1 i) (nx (M', A') ⟨g1, g2, g3, g4⟩)
theorem lx_161 {post : St2 → Prop} (h : ∃ f, wX_init_194 post mc ms kc ks f 0 (nI n) 16 32 ph 0 (nI ne) (nI nr) (nI ns) kn K L R M (hp_neg 256) (hp_neg 256) E r0 r1 rc F) : ∃ f, wX_init_161 post mc ms kc ks (nI n) 16 32 ph 0 (nI ne) (nI nr) (nI ns) kn f 0 K L R M (fun _ => 0) (fun _ => 0) E r0 r1 rc F := by
  refine pk_loop (fun f i (s : Nat → Int32) => wX_init_161 post mc ms kc ks (nI n) 16 32 ph 0 (nI ne) (nI nr) (nI ns) kn f (nI i) K L R M s s E r0 r1 rc F) (fun i s => s = hp_neg i) 256 0 (fun _ => 0) (by omega) hn_0 ?_ ?_
  · intro f s hs
    subst hs
    exact br_t (nI_le (a := 256) (b := 256) (by omega) (by decide)) h
  · intro f i s hi hs nx
    subst hs
    have hin : vp_in (nI i) 256 := vp_in_nI hi (by decide)
    have e : upd (hp_neg i) (nI i).toNatClampNeg (-1) = hp_neg (i + 1) := by
      rw [nI_clamp (by omega)]
      exact hn_s i
    exact br_f (nI_ge (b := 256) hi (by decide)) ⟨hin, nm_r e ⟨hin, nm_r e (nm_r (nI_1 i) (nx _ rfl))⟩⟩
theorem lx_init {post : St2 → Prop} (h2 : 2 ≤ n) (h4 : n ≤ 4)
    (h : ∀ K L R M A Z E r0 r1 rc F, hx_J n n 0 0 0 0 0 K L R M A Z E r0 r1 rc F → post (nI n, 16, 32, 0, nI n, nI 0, nI 0, nI 0, 0, K, L, R, M, A, Z, E, r0, r1, rc, F)) : wpX_init post 11 640 (0, 0, 0, 0, 0, 0, 0, 0, 0) (nI n) 16 32 := by
  refine ⟨by decide, by decide, by decide, by decide, by decide, by decide, by decide, by decide, by decide, by decide, by decide, by decide, by decide, by decide, by decide, by decide, by decide, by decide, by decide, by decide, by decide, by decide, ?_⟩
  refine br_t (nI_le (a := 2) h2 (by omega)) (br_t (nI_le (b := 4) h4 (by omega)) ?_)
  refine br_t (by decide) (br_t (by decide) ?_)
  refine br_t (by decide) (br_t (by decide) ?_)
  refine lx_161 (ne := 0) (nr := 0) (ns := 0) (lx_194 (ne := 0) (nr := 0) (ns := 0) h2 h4 (fun A M c1 c2 c3 c4 => ?_))
  refine h _ _ _ _ _ _ _ _ _ _ _ ⟨⟨hw_0 h2 h4 n (Nat.le_refl _), Nat.le_refl _, by omega, by omega, by omega, by omega⟩, ⟨c1, c2, c3, c4⟩, ⟨fun e he => absurd he (Nat.not_lt_zero _), fun e he => absurd he (Nat.not_lt_zero _), fun e he => absurd he (Nat.not_lt_zero _)⟩, Or.inl ⟨rfl, rfl, rfl, fun g hg => hn_lo hg, fun g hg => hn_hi hg⟩⟩
theorem hm_uq {c' : Nat} {K' L' R' M' : Nat → Int32} (W' : hp_W n c' K' L' R') (hc : c ≤ c') (hM : hp_M c K L R M) (hM' : hp_M c' K' L' R' M') (e : ∀ h, h < c → K' h = K h ∧ L' h = L h ∧ R' h = R h) : ∀ h, h < c → M' h = M h := by
  have w := W'.2.2.1
  intro h
  induction h using Nat.strongRecOn with
  | ind h ih =>
    intro hh
    rw [hM h (by omega), hM' h (by omega)]
    exact hm_c W' (by omega) (fun _ => e h hh) (fun x hx => ih x hx (by omega))
theorem lx_add {post : Int32 → St2 → Prop} {k a b : Int32} (J : hx_J n c ne nr ns ph kn K L R M A Z E r0 r1 rc F) (p : ph = 0) (hN : hp_N n c k a b)
    (h : ∀ r c' K L R M A, hx_J n c' ne nr ns ph kn K L R M A Z E r0 r1 rc F → post r (nI n, 16, 32, ph, nI c', nI ne, nI nr, nI ns, kn, K, L, R, M, A, Z, E, r0, r1, rc, F)) : wX_make_60 post k a b (nI n) 16 32 ph (nI c) (nI ne) (nI nr) (nI ns) kn K L R M A Z E r0 r1 rc F := by
  obtain ⟨b1, b2, b3, b4, b5, b6, b7⟩ := hj_b J
  unfold wX_make_60
  refine xm_3 b3 (fun i hi _ _ => br_f (ha_ne1 (by omega)) (h _ _ _ _ _ _ _ J)) (fun h0 => br_t rfl ?_)
  by_cases hc : c < 16
  · refine br_t (nI_lt (b := 16) hc (by decide)) (xi_add J.1.1 hc hN J.2.1.1 J.2.1.2.1 J.2.1.2.2.1 J.2.1.2.2.2 ?_)
    intro A' M' g1 g2 g3 g4
    have W' := hw_x J.1.1 hc hN
    have em := hm_uq W' (Nat.le_succ c) J.2.1.2.2.1 g3 (fun h hh => ⟨pk_un (by omega), pk_un (by omega), pk_un (by omega)⟩)
    have ev : ∀ x : Int32, (x = -1 ∨ ∃ h, h < c ∧ x = nI h) → hp_rv M' x = hp_rv M x := fun x hx => by
      unfold hp_rv
      by_cases e : x = -1
      · rw [if_pos e, if_pos e]
      · obtain ⟨y, hy, rfl⟩ := hx.resolve_left e
        rw [if_neg e, if_neg e, nI_clamp (by omega), em y hy]
    refine h _ _ _ _ _ _ _ ⟨⟨W', by omega, by omega, b4, b5, b6⟩, ⟨g1, g2, g3, g4⟩, ⟨?_, ?_, ?_⟩, Or.inl (J.2.2.2.elim id (fun z => absurd (p.symm.trans z.1) (by decide)))⟩
    · intro e he
      obtain ⟨x, x1, x2⟩ := J.2.2.1.1 e he
      exact ⟨x, by omega, x2⟩
    · intro r hr
      obtain ⟨y1, y2, x, x1, x2⟩ := J.2.2.1.2.1 r hr
      exact ⟨y1.imp id (fun ⟨x, x1, x2⟩ => ⟨x, by omega, x2⟩), y2.imp id (fun ⟨x, x1, x2⟩ => ⟨x, by omega, x2⟩), x, by omega, x2⟩
    · intro r hr
      obtain ⟨y1, y2, x, x1, x2⟩ := J.2.2.1.2.1 r hr
      have := J.2.2.1.2.2 r hr
      rw [x2, nI_clamp (by omega)] at this ⊢
      rw [ev _ y1, ev _ y2, em x x1]
      exact this
  · exact br_f (nI_nlt (b := 16) (by omega) (by omega)) (h _ _ _ _ _ _ _ J)
theorem lx_make {post : Int32 → St2 → Prop} {i : Nat} {v2 v3 : Int32} (J : hx_J n c ne nr ns ph kn K L R M A Z E r0 r1 rc F) (p : ph = 0) (h1 : 1 ≤ i) (h5 : i ≤ 5) (hv : i = 1 → v2 = 0 ∨ v2 = 1) (hw : ¬ i = 1 → ∃ j, j < c ∧ v2 = nI j) (hx : ∃ j, j < c ∧ v3 = nI j)
    (h : ∀ r c' K L R M A, hx_J n c' ne nr ns ph kn K L R M A Z E r0 r1 rc F → post r (nI n, 16, 32, ph, nI c', nI ne, nI nr, nI ns, kn, K, L, R, M, A, Z, E, r0, r1, rc, F)) : wpX_make post (nI n, 16, 32, ph, nI c, nI ne, nI nr, nI ns, kn, K, L, R, M, A, Z, E, r0, r1, rc, F) (nI i) v2 v3 := by
  obtain ⟨b1, b2, b3, b4, b5, b6, b7⟩ := hj_b J
  have q : ¬ ph = 1 := by rw [p]; decide
  obtain ⟨j', hj', rfl⟩ := hx
  refine br_f q ?_
  unfold wpX_makeRefusal
  refine br_f (nI_nlt (b := 1) h1 (by omega)) (br_f (nI_nlt (a := 5) h5 (by omega)) ?_)
  obtain rfl | rfl | h234 : i = 1 ∨ i = 5 ∨ (i = 2 ∨ i = 3 ∨ i = 4) := by omega
  · have hv := hv rfl
    have key : wX_make_48 post (nI 1) v2 (nI j') 0 (nI n) 16 32 ph (nI c) (nI ne) (nI nr) (nI ns) kn K L R M A Z E r0 r1 rc F := br_t rfl (lx_add J p (Or.inr ⟨b2, Or.inl ⟨rfl, hv, rfl⟩⟩) h)
    refine br_t rfl ?_
    by_cases e0 : v2 = 0
    · exact br_t e0 (br_t (by decide) (br_f (by decide) (br_f (by decide) (br_f (by decide) key))))
    · exact br_f e0 (br_t (hv.resolve_left e0) (br_t (by decide) (br_f (by decide) (br_f (by decide) (br_f (by decide) key)))))
  · obtain ⟨j, hj, rfl⟩ := hw (by decide)
    refine br_f (by decide) (br_f (by decide) (br_f (by decide) (br_f (by decide) (br_t rfl ?_))))
    exact xi_h1 hj (by omega) (br_f (by decide) (br_t (by decide) (br_f (by decide) (br_f (by decide) (br_f (by decide) (br_t rfl (lx_add J p (Or.inr ⟨b2, Or.inr (Or.inl ⟨rfl, ⟨j, hj, rfl⟩, rfl⟩)⟩) h)))))))
  · obtain ⟨j, hj, rfl⟩ := hw (by omega)
    have kn3 : nI i = 2 ∨ nI i = 3 ∨ nI i = 4 := by rcases h234 with rfl | rfl | rfl <;> decide
    have n1 : ¬ nI i = 1 := by rcases h234 with rfl | rfl | rfl <;> decide
    have h43 : wX_make_43 post (nI i) (nI j) (nI j') (nI n) 16 32 ph (nI c) (nI ne) (nI nr) (nI ns) kn K L R M A Z E r0 r1 rc F := br_f (by decide) (lx_add J p (Or.inr ⟨b2, Or.inr (Or.inr ⟨kn3, ⟨j, hj, rfl⟩, ⟨j', hj', rfl⟩⟩)⟩) h)
    refine br_f n1 ?_
    have h67 : ∀ post' : Int32 → Prop, post' 0 → wX_makeRefusal_67 post' (nI j) (nI j') (nI n) 16 32 ph (nI c) (nI ne) (nI nr) (nI ns) kn K L R M A Z E r0 r1 rc F := fun post' hp => xi_h1 hj (by omega) (br_f (by decide) (xi_h1 hj' (by omega) (br_f (by decide) hp)))
    rcases kn3 with e | e | e
    · exact br_t e (h67 _ (br_t (by decide) (br_t e h43)))
    · exact br_f (by rw [e]; decide) (br_t e (h67 _ (br_t (by decide) (br_f (by rw [e]; decide) (br_t e h43)))))
    · exact br_f (by rw [e]; decide) (br_f (by rw [e]; decide) (br_t e (h67 _ (br_t (by decide) (br_f (by rw [e]; decide) (br_f (by rw [e]; decide) (br_t e h43)))))))
theorem lx_know {post : Int32 → St2 → Prop} {j : Nat} (J : hx_J n c ne nr ns ph kn K L R M A Z E r0 r1 rc F) (p : ph = 0) (hj : j < c)
    (h : ∀ r ne' E, hx_J n c ne' nr ns ph kn K L R M A Z E r0 r1 rc F → post r (nI n, 16, 32, ph, nI c, nI ne', nI nr, nI ns, kn, K, L, R, M, A, Z, E, r0, r1, rc, F)) : wpX_know post (nI n, 16, 32, ph, nI c, nI ne, nI nr, nI ns, kn, K, L, R, M, A, Z, E, r0, r1, rc, F) (nI j) := by
  obtain ⟨b1, b2, b3, b4, b5, b6, b7⟩ := hj_b J
  have q : ¬ ph = 1 := by rw [p]; decide
  have hin : vp_in (nI j) 16 := vp_in_nI (by omega) (by decide)
  refine br_f q (xi_h1 hj (by omega) (br_f (by decide) ⟨hin, ?_⟩))
  rw [nI_clamp (n := j) (by omega)]
  by_cases m0 : M j = 0
  · refine br_t m0 ?_
    by_cases full : ne < 8
    · have fin : vp_in (nI ne) 8 := vp_in_nI full (by decide)
      have fcl : (nI ne).toNatClampNeg = ne := nI_clamp (by omega)
      refine br_t (nI_lt (b := 8) full (by decide)) ⟨fin, nm_r (e' := upd E ne (nI j)) (by rw [fcl]) (nm_r (nI_1 ne) (h _ _ _ ⟨⟨J.1.1, b2, b3, by omega, b5, b6⟩, J.2.1, ⟨?_, J.2.2.1.2⟩, Or.inl (J.2.2.2.elim id (fun z => absurd (p.symm.trans z.1) (by decide)))⟩))⟩
      intro e he
      by_cases e1 : e = ne
      · subst e1
        exact ⟨j, hj, pk_us⟩
      · obtain ⟨h0, h1, h2⟩ := J.2.2.1.1 e (by omega)
        exact ⟨h0, h1, by rw [pk_un e1]; exact h2⟩
    · exact br_f (nI_nlt (b := 8) (by omega) (by omega)) (h _ _ _ J)
  · exact br_f m0 (h _ _ _ J)
theorem lx_rule {post : Int32 → St2 → Prop} {j : Nat} {x y : Int32} (J : hx_J n c ne nr ns ph kn K L R M A Z E r0 r1 rc F) (p : ph = 0) (hj : j < c) (hx : x = -1 ∨ ∃ h, h < c ∧ x = nI h) (hy : y = -1 ∨ ∃ h, h < c ∧ y = nI h)
    (h : ∀ r nr' r0 r1 rc, hx_J n c ne nr' ns ph kn K L R M A Z E r0 r1 rc F → post r (nI n, 16, 32, ph, nI c, nI ne, nI nr', nI ns, kn, K, L, R, M, A, Z, E, r0, r1, rc, F)) : wpX_rule post (nI n, 16, 32, ph, nI c, nI ne, nI nr, nI ns, kn, K, L, R, M, A, Z, E, r0, r1, rc, F) x y (nI j) := by
  obtain ⟨b1, b2, b3, b4, b5, b6, b7⟩ := hj_b J
  have q : ¬ ph = 1 := by rw [p]; decide
  have pm : ∀ x : Int32, (x = -1 ∨ ∃ h, h < c ∧ x = nI h) → hp_pm c M x (hp_rv M x) := fun x hx => by
    unfold hp_rv
    rcases hx with rfl | ⟨h, hh, rfl⟩
    · exact Or.inl ⟨rfl, if_pos rfl⟩
    · exact Or.inr ⟨h, hh, rfl, by rw [if_neg (ha_ne1 (by omega)), nI_clamp (by omega)]⟩
  have key : wX_rule_27 post x y (nI j) (nI n) 16 32 ph (nI c) (nI ne) (nI nr) (nI ns) kn K L R M A Z E r0 r1 rc F := by
    refine xr_27 b3 hj b5 (pm x hx) (pm y hy) ?_
    by_cases e : M j &&& ((hp_rv M x ||| hp_rv M y) ^^^ (-1)) = 0
    · rw [if_pos e]
      by_cases h8 : nr < 8
      · rw [if_pos h8]
        refine h _ _ _ _ _ ⟨⟨J.1.1, b2, b3, b4, by omega, b6⟩, J.2.1, ⟨J.2.2.1.1, ?_, ?_⟩, Or.inl (J.2.2.2.elim id (fun z => absurd (p.symm.trans z.1) (by decide)))⟩
        · intro r hr
          by_cases er : r = nr
          · subst er
            rw [pk_us, pk_us, pk_us]
            refine ⟨?_, ?_, j, hj, rfl⟩
            · unfold hp_r1
              split
              · exact hy
              · exact hx
            · unfold hp_r2
              split
              · exact Or.inl rfl
              · exact hy
          · rw [pk_un er, pk_un er, pk_un er]
            exact J.2.2.1.2.1 r (by omega)
        · intro r hr
          by_cases er : r = nr
          · subst er
            rw [pk_us, pk_us, pk_us, nI_clamp (by omega)]
            unfold hp_r1 hp_r2
            by_cases ex : x = -1
            · rw [if_pos ex, if_pos ex]
              have e1 : hp_rv M x = 0 := if_pos ex
              have e2 : hp_rv M (-1) = 0 := if_pos rfl
              rw [e1, hb_zo] at e
              rw [e2, hb_oz]
              exact e
            · rw [if_neg ex, if_neg ex]
              exact e
          · rw [pk_un er, pk_un er, pk_un er]
            exact J.2.2.1.2.2 r (by omega)
      · rw [if_neg h8]
        exact h _ _ _ _ _ J
    · rw [if_neg e]
      exact h _ _ _ _ _ J
  refine br_f q ?_
  rcases hx with rfl | ⟨i, hi, rfl⟩
  · exact br_t rfl key
  · exact br_f (ha_ne1 (by omega)) (xi_h1 hi (by omega) (br_f (by decide) key))
theorem lx_sat {post : Int32 → St2 → Prop} (J : hx_J n c ne nr ns ph kn K L R M A Z E r0 r1 rc F) (p : ph = 0)
    (h : ∀ Z, hx_J n c ne nr 0 1 (nI (hp_k Z 256)) K L R M A Z E r0 r1 rc F → post (nI (hp_k Z 256)) (nI n, 16, 32, 1, nI c, nI ne, nI nr, nI 0, nI (hp_k Z 256), K, L, R, M, A, Z, E, r0, r1, rc, F)) : wpX_saturate post (nI n, 16, 32, ph, nI c, nI ne, nI nr, nI ns, kn, K, L, R, M, A, Z, E, r0, r1, rc, F) := by
  obtain ⟨b1, b2, b3, b4, b5, b6, b7⟩ := hj_b J
  have W := J.1.1
  have C := J.2.1.1
  have hE := J.2.2.1.1
  have hR := J.2.2.1.2.1
  have q : ¬ ph = 1 := by rw [p]; decide
  obtain ⟨_, ns0, kn0, z1, z2⟩ := J.2.2.2.resolve_right (fun z => absurd (p.symm.trans z.1) (by decide))
  obtain ⟨f, f1, f2, f3⟩ := hp_stop (hp_e0 Z A E ne) (hp_D n nr K L R A r0 r1 rc) (fun Rk i g d => d.1)
  have hG := he_G (Z := Z) W C hE z1 ne (Nat.le_refl _)
  subst kn0
  subst ns0
  refine br_f q (xl_18 W C hE b4 z1 ⟨_, xl_55 W C hR b5 hG f1 f2 f3 ?_ f 0 (by omega)⟩)
  exact h _ ⟨⟨W, b2, b3, b4, b5, by omega⟩, J.2.1, J.2.2.1, Or.inr ⟨rfl, hY_of W C hE z1 z2 f1 f2, rfl, fun j hj => absurd hj (Nat.not_lt_zero _)⟩⟩
end HB
end
section
/-! step in phase READY, kind by kind -/
section HST
variable {n c ne nr ns : Nat} {ph kn : Int32} {K L R M A Z E r0 r1 rc F : Nat → Int32} {post : Int32 → St2 → Prop} {i j f g : Nat} {v3 v4 : Int32}
theorem sz_fin {r : Int32} (hns : ns < 32) (h0 : r = -1 → post (-10) (nI n, 16, 32, ph, nI c, nI ne, nI nr, nI ns, kn, K, L, R, M, A, Z, E, r0, r1, rc, F)) (h1 : ¬ r = -1 → post (nI ns) (nI n, 16, 32, ph, nI c, nI ne, nI nr, nI (ns + 1), kn, K, L, R, M, A, Z, E, r0, r1, rc, upd F ns r)) :
    (r = -1 → post (-10) (nI n, 16, 32, ph, nI c, nI ne, nI nr, nI ns, kn, K, L, R, M, A, Z, E, r0, r1, rc, F)) ∧ (¬ r = -1 → (vp_in (nI ns) 32 ∧ ∀ a, a = upd F (nI ns).toNatClampNeg r → ∀ x, x = nI ns + 1 → post (nI ns) (nI n, 16, 32, ph, nI c, nI ne, nI nr, x, kn, K, L, R, M, A, Z, E, r0, r1, rc, a))) :=
  ⟨h0, fun z => ⟨vp_in_nI hns (by decide), nm_r (e' := upd F ns r) (by rw [nI_clamp (by omega)]) (nm_r (nI_1 ns) (h1 z))⟩⟩
theorem hj_hv (J : hx_J n c ne nr ns ph kn K L R M A Z E r0 r1 rc F) : ∀ g, g < 256 → A g = nI g → g / 16 < c := fun g hg e => (hc_g J.2.1.1 hg e).1
theorem st_1 (J : hx_J n c ne nr ns ph kn K L R M A Z E r0 r1 rc F) (p1 : ph = 1) (hns : ns < 32) (hi : i < ns) (hj : j < ns) {r : Int32} (hr : hp_r K L R A 2 (F i) (F j) r) (h0 : r = -1 → post (-10) (nI n, 16, 32, ph, nI c, nI ne, nI nr, nI ns, kn, K, L, R, M, A, Z, E, r0, r1, rc, F)) (h1 : ¬ r = -1 → post (nI ns) (nI n, 16, 32, ph, nI c, nI ne, nI nr, nI (ns + 1), kn, K, L, R, M, A, Z, E, r0, r1, rc, upd F ns r)) : wpX_step post (nI n, 16, 32, ph, nI c, nI ne, nI nr, nI ns, kn, K, L, R, M, A, Z, E, r0, r1, rc, F) (nI 1) (nI i) (nI j) v4 := by
  obtain ⟨b1, b2, b3, b4, b5, b6, b7⟩ := hj_b J
  have W := J.1.1
  have C := J.2.1.1
  refine br_f (by rw [p1]; decide) (br_t (nI_lt (b := 32) hns (by decide)) (br_f (by decide) (br_t (by decide) ?_)))
  have hii : vp_in (nI i) 32 := vp_in_nI (by omega) (by decide)
  have ci : (nI i).toNatClampNeg = i := nI_clamp (by omega)
  have hij : vp_in (nI j) 32 := vp_in_nI (by omega) (by decide)
  have cj : (nI j).toNatClampNeg = j := nI_clamp (by omega)
  refine br_f (by decide) (br_f (by decide) (br_f (by decide) (br_t rfl (xi_s1 hi (by omega) (br_f (by decide) (xi_s1 hj (by omega) (br_f (by decide) (br_t (by decide) ?_))))))))
  refine br_f (by decide) (br_f (by decide) (br_f (by decide) (br_t rfl (⟨hii, hij, ?_⟩))))
  rw [ci, cj]
  exact xi_find W (hj_hv J) (by decide) (fun z => absurd z (by decide)) hr (sz_fin hns h0 h1)
theorem st_2 (J : hx_J n c ne nr ns ph kn K L R M A Z E r0 r1 rc F) (p1 : ph = 1) (hns : ns < 32) (hi : i < ns) (hj : j < ns) {r : Int32} (hr : hp_r K L R A 3 (F i) (F j) r) (h0 : r = -1 → post (-10) (nI n, 16, 32, ph, nI c, nI ne, nI nr, nI ns, kn, K, L, R, M, A, Z, E, r0, r1, rc, F)) (h1 : ¬ r = -1 → post (nI ns) (nI n, 16, 32, ph, nI c, nI ne, nI nr, nI (ns + 1), kn, K, L, R, M, A, Z, E, r0, r1, rc, upd F ns r)) : wpX_step post (nI n, 16, 32, ph, nI c, nI ne, nI nr, nI ns, kn, K, L, R, M, A, Z, E, r0, r1, rc, F) (nI 2) (nI i) (nI j) v4 := by
  obtain ⟨b1, b2, b3, b4, b5, b6, b7⟩ := hj_b J
  have W := J.1.1
  have C := J.2.1.1
  refine br_f (by rw [p1]; decide) (br_t (nI_lt (b := 32) hns (by decide)) (br_f (by decide) (br_t (by decide) ?_)))
  have hii : vp_in (nI i) 32 := vp_in_nI (by omega) (by decide)
  have ci : (nI i).toNatClampNeg = i := nI_clamp (by omega)
  have hij : vp_in (nI j) 32 := vp_in_nI (by omega) (by decide)
  have cj : (nI j).toNatClampNeg = j := nI_clamp (by omega)
  refine br_f (by decide) (br_f (by decide) (br_f (by decide) (br_f (by decide) (br_t rfl (xi_s1 hi (by omega) (br_f (by decide) (xi_s1 hj (by omega) (br_f (by decide) (br_t (by decide) ?_)))))))))
  refine br_f (by decide) (br_f (by decide) (br_f (by decide) (br_f (by decide) (br_t rfl (⟨hii, hij, ?_⟩)))))
  rw [ci, cj]
  exact xi_find W (hj_hv J) (by decide) (fun z => absurd z (by decide)) hr (sz_fin hns h0 h1)
theorem st_3 (J : hx_J n c ne nr ns ph kn K L R M A Z E r0 r1 rc F) (p1 : ph = 1) (hns : ns < 32) (hi : i < ns) (hj : j < ns) {r : Int32} (hr : hp_r K L R A 4 (F i) (F j) r) (h0 : r = -1 → post (-10) (nI n, 16, 32, ph, nI c, nI ne, nI nr, nI ns, kn, K, L, R, M, A, Z, E, r0, r1, rc, F)) (h1 : ¬ r = -1 → post (nI ns) (nI n, 16, 32, ph, nI c, nI ne, nI nr, nI (ns + 1), kn, K, L, R, M, A, Z, E, r0, r1, rc, upd F ns r)) : wpX_step post (nI n, 16, 32, ph, nI c, nI ne, nI nr, nI ns, kn, K, L, R, M, A, Z, E, r0, r1, rc, F) (nI 3) (nI i) (nI j) v4 := by
  obtain ⟨b1, b2, b3, b4, b5, b6, b7⟩ := hj_b J
  have W := J.1.1
  have C := J.2.1.1
  refine br_f (by rw [p1]; decide) (br_t (nI_lt (b := 32) hns (by decide)) (br_f (by decide) (br_t (by decide) ?_)))
  have hii : vp_in (nI i) 32 := vp_in_nI (by omega) (by decide)
  have ci : (nI i).toNatClampNeg = i := nI_clamp (by omega)
  have hij : vp_in (nI j) 32 := vp_in_nI (by omega) (by decide)
  have cj : (nI j).toNatClampNeg = j := nI_clamp (by omega)
  refine br_f (by decide) (br_f (by decide) (br_f (by decide) (br_f (by decide) (br_f (by decide) (br_t rfl (xi_s1 hi (by omega) (br_f (by decide) (xi_s1 hj (by omega) (br_f (by decide) (br_t (by decide) ?_))))))))))
  refine br_f (by decide) (br_f (by decide) (br_f (by decide) (br_f (by decide) (br_f (by decide) (br_t rfl (⟨hii, hij, ?_⟩))))))
  rw [ci, cj]
  exact xi_find W (hj_hv J) (by decide) (fun z => absurd z (by decide)) hr (sz_fin hns h0 h1)
theorem st_4 (J : hx_J n c ne nr ns ph kn K L R M A Z E r0 r1 rc F) (p1 : ph = 1) (hns : ns < 32) (hi : i < ns) {r : Int32} (hr : hp_r K L R A 5 (F i) (-1) r) (h0 : r = -1 → post (-10) (nI n, 16, 32, ph, nI c, nI ne, nI nr, nI ns, kn, K, L, R, M, A, Z, E, r0, r1, rc, F)) (h1 : ¬ r = -1 → post (nI ns) (nI n, 16, 32, ph, nI c, nI ne, nI nr, nI (ns + 1), kn, K, L, R, M, A, Z, E, r0, r1, rc, upd F ns r)) : wpX_step post (nI n, 16, 32, ph, nI c, nI ne, nI nr, nI ns, kn, K, L, R, M, A, Z, E, r0, r1, rc, F) (nI 4) (nI i) v3 v4 := by
  obtain ⟨b1, b2, b3, b4, b5, b6, b7⟩ := hj_b J
  have W := J.1.1
  have C := J.2.1.1
  refine br_f (by rw [p1]; decide) (br_t (nI_lt (b := 32) hns (by decide)) (br_f (by decide) (br_t (by decide) ?_)))
  have hii : vp_in (nI i) 32 := vp_in_nI (by omega) (by decide)
  have ci : (nI i).toNatClampNeg = i := nI_clamp (by omega)
  refine br_f (by decide) (br_f (by decide) (br_f (by decide) (br_f (by decide) (br_f (by decide) (br_f (by decide) (br_t rfl (xi_s1 hi (by omega) (br_f (by decide) (br_t (by decide) ?_)))))))))
  refine br_f (by decide) (br_f (by decide) (br_f (by decide) (br_f (by decide) (br_f (by decide) (br_f (by decide) (br_t rfl (⟨hii, ?_⟩)))))))
  rw [ci]
  exact xi_find W (hj_hv J) (by decide) (fun _ => rfl) hr (sz_fin hns h0 h1)
theorem st_5 (J : hx_J n c ne nr ns ph kn K L R M A Z E r0 r1 rc F) (p1 : ph = 1) (hns : ns < 32) (hi : i < ns) (hf : f < 256) (ef : F i = nI f) (af : A f = nI f) (h0 : ¬ K (f / 16) = 2 → post (-10) (nI n, 16, 32, ph, nI c, nI ne, nI nr, nI ns, kn, K, L, R, M, A, Z, E, r0, r1, rc, F)) (h1 : K (f / 16) = 2 → post (nI ns) (nI n, 16, 32, ph, nI c, nI ne, nI nr, nI (ns + 1), kn, K, L, R, M, A, Z, E, r0, r1, rc, upd F ns (A (hp_l L f)))) : wpX_step post (nI n, 16, 32, ph, nI c, nI ne, nI nr, nI ns, kn, K, L, R, M, A, Z, E, r0, r1, rc, F) (nI 5) (nI i) v3 v4 := by
  obtain ⟨b1, b2, b3, b4, b5, b6, b7⟩ := hj_b J
  have W := J.1.1
  have C := J.2.1.1
  refine br_f (by rw [p1]; decide) (br_t (nI_lt (b := 32) hns (by decide)) (br_f (by decide) (br_t (by decide) ?_)))
  have hii : vp_in (nI i) 32 := vp_in_nI (by omega) (by decide)
  have ci : (nI i).toNatClampNeg = i := nI_clamp (by omega)
  refine br_f (by decide) (br_f (by decide) (br_f (by decide) (br_f (by decide) (br_f (by decide) (br_f (by decide) (br_f (by decide) (br_t rfl (xi_s1 hi (by omega) (br_f (by decide) (br_t (by decide) ?_))))))))))
  have hv := hc_g C hf af
  refine br_f (by decide) (br_f (by decide) (br_f (by decide) (br_f (by decide) (br_f (by decide) (br_f (by decide) (br_f (by decide) (br_t rfl (⟨hii, ?_⟩))))))))
  rw [ci, ef]
  by_cases k2 : K (f / 16) = 2
  · obtain ⟨l, x, _, _, _, x1, x2, x3, _⟩ := hc_l W C hv (hn_2 k2)
    have ne : ¬ A (hp_l L f) = -1 := by rw [x2]; exact ha_ne1 (by omega)
    exact xi_knd hf (fun _ => br_f (by decide) ⟨hii, xi_lft W C hf hv (hn_2 k2) (sz_fin hns (fun z => absurd z ne) (fun _ => h1 k2))⟩) (fun z => absurd k2 z)
  · exact xi_knd hf (fun z => absurd z k2) (fun _ => br_t rfl (sz_fin hns (fun _ => h0 k2) (fun z => absurd rfl z)))
theorem st_6 (J : hx_J n c ne nr ns ph kn K L R M A Z E r0 r1 rc F) (p1 : ph = 1) (hns : ns < 32) (hi : i < ns) (hf : f < 256) (ef : F i = nI f) (af : A f = nI f) (h0 : ¬ K (f / 16) = 2 → post (-10) (nI n, 16, 32, ph, nI c, nI ne, nI nr, nI ns, kn, K, L, R, M, A, Z, E, r0, r1, rc, F)) (h1 : K (f / 16) = 2 → post (nI ns) (nI n, 16, 32, ph, nI c, nI ne, nI nr, nI (ns + 1), kn, K, L, R, M, A, Z, E, r0, r1, rc, upd F ns (A (hp_l R f)))) : wpX_step post (nI n, 16, 32, ph, nI c, nI ne, nI nr, nI ns, kn, K, L, R, M, A, Z, E, r0, r1, rc, F) (nI 6) (nI i) v3 v4 := by
  obtain ⟨b1, b2, b3, b4, b5, b6, b7⟩ := hj_b J
  have W := J.1.1
  have C := J.2.1.1
  refine br_f (by rw [p1]; decide) (br_t (nI_lt (b := 32) hns (by decide)) (br_f (by decide) (br_t (by decide) ?_)))
  have hii : vp_in (nI i) 32 := vp_in_nI (by omega) (by decide)
  have ci : (nI i).toNatClampNeg = i := nI_clamp (by omega)
  refine br_f (by decide) (br_f (by decide) (br_f (by decide) (br_f (by decide) (br_f (by decide) (br_f (by decide) (br_f (by decide) (br_f (by decide) (br_t rfl (xi_s1 hi (by omega) (br_f (by decide) (br_t (by decide) ?_)))))))))))
  have hv := hc_g C hf af
  refine br_f (by decide) (br_f (by decide) (br_f (by decide) (br_f (by decide) (br_f (by decide) (br_f (by decide) (br_f (by decide) (br_f (by decide) (br_t rfl (⟨hii, ?_⟩)))))))))
  rw [ci, ef]
  by_cases k2 : K (f / 16) = 2
  · obtain ⟨l, x, _, _, _, x1, x2, x3, _⟩ := hc_r W C hv (hn_2 k2) (by rw [k2]; decide)
    have ne : ¬ A (hp_l R f) = -1 := by rw [x2]; exact ha_ne1 (by omega)
    exact xi_knd hf (fun _ => br_f (by decide) ⟨hii, xi_rgt W C hf hv (hn_2 k2) (by rw [k2]; decide) (sz_fin hns (fun z => absurd z ne) (fun _ => h1 k2))⟩) (fun z => absurd k2 z)
  · exact xi_knd hf (fun z => absurd z k2) (fun _ => br_t rfl (sz_fin hns (fun _ => h0 k2) (fun z => absurd rfl z)))
theorem st_7 (J : hx_J n c ne nr ns ph kn K L R M A Z E r0 r1 rc F) (p1 : ph = 1) (hns : ns < 32) (hi : i < ns) (hj : j < ns) (hf : f < 256) (ef : F i = nI f) (af : A f = nI f) (h0 : ¬ (K (f / 16) = 3 ∧ A (hp_l R f) = F j) → post (-10) (nI n, 16, 32, ph, nI c, nI ne, nI nr, nI ns, kn, K, L, R, M, A, Z, E, r0, r1, rc, F)) (h1 : K (f / 16) = 3 → A (hp_l R f) = F j → post (nI ns) (nI n, 16, 32, ph, nI c, nI ne, nI nr, nI (ns + 1), kn, K, L, R, M, A, Z, E, r0, r1, rc, upd F ns (A (hp_l L f)))) : wpX_step post (nI n, 16, 32, ph, nI c, nI ne, nI nr, nI ns, kn, K, L, R, M, A, Z, E, r0, r1, rc, F) (nI 7) (nI i) (nI j) v4 := by
  obtain ⟨b1, b2, b3, b4, b5, b6, b7⟩ := hj_b J
  have W := J.1.1
  have C := J.2.1.1
  refine br_f (by rw [p1]; decide) (br_t (nI_lt (b := 32) hns (by decide)) (br_f (by decide) (br_t (by decide) ?_)))
  have hii : vp_in (nI i) 32 := vp_in_nI (by omega) (by decide)
  have ci : (nI i).toNatClampNeg = i := nI_clamp (by omega)
  have hij : vp_in (nI j) 32 := vp_in_nI (by omega) (by decide)
  have cj : (nI j).toNatClampNeg = j := nI_clamp (by omega)
  refine br_f (by decide) (br_f (by decide) (br_f (by decide) (br_f (by decide) (br_f (by decide) (br_f (by decide) (br_f (by decide) (br_f (by decide) (br_f (by decide) (br_t rfl (xi_s1 hi (by omega) (br_f (by decide) (xi_s1 hj (by omega) (br_f (by decide) (br_t (by decide) ?_))))))))))))))
  have hv := hc_g C hf af
  refine br_f (by decide) (br_f (by decide) (br_f (by decide) (br_f (by decide) (br_f (by decide) (br_f (by decide) (br_f (by decide) (br_f (by decide) (br_f (by decide) (br_t rfl (⟨hii, ?_⟩))))))))))
  rw [ci, ef]
  by_cases k3 : K (f / 16) = 3
  · obtain ⟨l, x, _, _, _, x1, x2, x3, _⟩ := hc_l W C hv (hn_3 k3)
    have ne : ¬ A (hp_l L f) = -1 := by rw [x2]; exact ha_ne1 (by omega)
    refine xi_knd hf (fun _ => br_f (by decide) ⟨hii, hij, ?_⟩) (fun z => absurd k3 z)
    unfold wpX_opened
    refine xi_key3 W C hf hv k3 ?_
    rw [cj]
    by_cases e : A (hp_l R f) = F j
    · exact br_t e (xi_lft W C hf hv (hn_3 k3) (sz_fin hns (fun z => absurd z ne) (fun _ => h1 k3 e)))
    · exact br_f e (sz_fin hns (fun _ => h0 (fun z => e z.2)) (fun z => absurd rfl z))
  · exact xi_knd hf (fun z => absurd z k3) (fun _ => br_t rfl (sz_fin hns (fun _ => h0 (fun z => k3 z.1)) (fun z => absurd rfl z)))
theorem st_8 (J : hx_J n c ne nr ns ph kn K L R M A Z E r0 r1 rc F) (p1 : ph = 1) (hns : ns < 32) (hi : i < ns) (hj : j < ns) (hf : f < 256) (ef : F i = nI f) (af : A f = nI f) (hg : g < 256) (eg : F j = nI g) (h0 : ¬ (K (f / 16) = 4 ∧ K (hp_i A (hp_l R f) / 16) = 5 ∧ A (hp_l L (hp_i A (hp_l R f))) = F j) → post (-10) (nI n, 16, 32, ph, nI c, nI ne, nI nr, nI ns, kn, K, L, R, M, A, Z, E, r0, r1, rc, F)) (h1 : K (f / 16) = 4 → K (hp_i A (hp_l R f) / 16) = 5 → A (hp_l L (hp_i A (hp_l R f))) = F j → post (nI ns) (nI n, 16, 32, ph, nI c, nI ne, nI nr, nI (ns + 1), kn, K, L, R, M, A, Z, E, r0, r1, rc, upd F ns (A (hp_l L f)))) : wpX_step post (nI n, 16, 32, ph, nI c, nI ne, nI nr, nI ns, kn, K, L, R, M, A, Z, E, r0, r1, rc, F) (nI 8) (nI i) (nI j) v4 := by
  obtain ⟨b1, b2, b3, b4, b5, b6, b7⟩ := hj_b J
  have W := J.1.1
  have C := J.2.1.1
  refine br_f (by rw [p1]; decide) (br_t (nI_lt (b := 32) hns (by decide)) (br_f (by decide) (br_t (by decide) ?_)))
  have hii : vp_in (nI i) 32 := vp_in_nI (by omega) (by decide)
  have ci : (nI i).toNatClampNeg = i := nI_clamp (by omega)
  have hij : vp_in (nI j) 32 := vp_in_nI (by omega) (by decide)
  have cj : (nI j).toNatClampNeg = j := nI_clamp (by omega)
  refine br_f (by decide) (br_f (by decide) (br_f (by decide) (br_f (by decide) (br_f (by decide) (br_f (by decide) (br_f (by decide) (br_f (by decide) (br_f (by decide) (br_f (by decide) (br_t rfl (xi_s1 hi (by omega) (br_f (by decide) (xi_s1 hj (by omega) (br_f (by decide) (br_t (by decide) ?_)))))))))))))))
  have hv := hc_g C hf af
  refine br_f (by decide) (br_f (by decide) (br_f (by decide) (br_f (by decide) (br_f (by decide) (br_f (by decide) (br_f (by decide) (br_f (by decide) (br_f (by decide) (br_f (by decide) (br_t rfl (⟨hii, ?_⟩)))))))))))
  rw [ci, ef]
  by_cases k4 : K (f / 16) = 4
  · have n5 : ¬ K (f / 16) = 5 := by rw [k4]; decide
    obtain ⟨l, x, _, _, _, x1, x2, x3, _⟩ := hc_l W C hv (hn_4 k4)
    obtain ⟨l', w, _, _, _, w1, w2, w3, w4⟩ := hc_r W C hv (hn_4 k4) n5
    have ne : ¬ A (hp_l L f) = -1 := by rw [x2]; exact ha_ne1 (by omega)
    rw [w4] at h0 h1
    refine xi_knd hf (fun _ => br_f (by decide) ⟨hii, hij, ?_⟩) (fun z => absurd k4 z)
    unfold wpX_opened
    rw [cj]
    refine xi_key4 W C hf hv k4 w1 w2 w3 (fun k5 => ?_) (fun k5 => ?_)
    · by_cases e : A (hp_l L w) = F j
      · exact br_t e (xi_lft W C hf hv (hn_4 k4) (sz_fin hns (fun z => absurd z ne) (fun _ => h1 k4 k5 e)))
      · exact br_f e (sz_fin hns (fun _ => h0 (fun z => e z.2.2)) (fun z => absurd rfl z))
    · exact br_f (by rw [eg]; exact fun z => ha_ne1 (by omega) z.symm) (sz_fin hns (fun _ => h0 (fun z => k5 z.2.1)) (fun z => absurd rfl z))
  · exact xi_knd hf (fun z => absurd z k4) (fun _ => br_t rfl (sz_fin hns (fun _ => h0 (fun z => k4 z.1)) (fun z => absurd rfl z)))
theorem st_0 (J : hx_J n c ne nr ns ph kn K L R M A Z E r0 r1 rc F) (p1 : ph = 1) (hns : ns < 32) (hi : i < ne) (h1 : post (nI ns) (nI n, 16, 32, ph, nI c, nI ne, nI nr, nI (ns + 1), kn, K, L, R, M, A, Z, E, r0, r1, rc, upd F ns (A ((E i).toNatClampNeg * 16)))) : wpX_step post (nI n, 16, 32, ph, nI c, nI ne, nI nr, nI ns, kn, K, L, R, M, A, Z, E, r0, r1, rc, F) (nI 0) (nI i) v3 v4 := by
  obtain ⟨b1, b2, b3, b4, b5, b6, b7⟩ := hj_b J
  have W := J.1.1
  have C := J.2.1.1
  refine br_f (by rw [p1]; decide) (br_t (nI_lt (b := 32) hns (by decide)) (br_f (by decide) (br_t (by decide) ?_)))
  have hii : vp_in (nI i) 8 := vp_in_nI (by omega) (by decide)
  have ci : (nI i).toNatClampNeg = i := nI_clamp (by omega)
  obtain ⟨h, x, hh, eh, x1, x2, x3, _⟩ := he_x W C (J.2.2.1.1 i hi)
  rw [eh, nI_clamp (n := h) (by omega)] at h1
  have ne : ¬ A (h * 16) = -1 := by rw [x2]; exact ha_ne1 (by omega)
  refine br_f (by decide) (br_f (by decide) (br_t rfl ?_))
  refine hb_i hi (by omega) (br_t (by decide) (br_f (by decide) (br_f (by decide) (br_t rfl ⟨hii, ?_⟩))))
  rw [ci, eh, ha_16, nI_clamp (n := h * 16) (by omega)]
  exact ⟨vp_in_nI (by omega) (by decide), sz_fin hns (fun z => absurd z ne) (fun _ => h1)⟩
theorem xi_rr {post : Int32 → Prop} {i : Nat} {v3 v4 : Int32} (hi : i < nr) (h8 : nr ≤ 8) (h32 : ns ≤ 32) (h0 : (¬ r0 i = -1 → ∃ j, j < ns ∧ v3 = nI j) → (¬ r1 i = -1 → ∃ j, j < ns ∧ v4 = nI j) → post 0)
    (h3 : ¬ r0 i = -1 → (v3 < 0 ∨ nI ns ≤ v3) → post (-9)) (h4 : (¬ r0 i = -1 → ∃ j, j < ns ∧ v3 = nI j) → ¬ r1 i = -1 → (v4 < 0 ∨ nI ns ≤ v4) → post (-9)) : wpX_ruleRefusal post (nI n, 16, 32, ph, nI c, nI ne, nI nr, nI ns, kn, K, L, R, M, A, Z, E, r0, r1, rc, F) (nI i) v3 v4 := by
  have hii : vp_in (nI i) 8 := vp_in_nI (by omega) (by decide)
  have ci : (nI i).toNatClampNeg = i := nI_clamp (by omega)
  have main : (¬ r0 i = -1 → ∃ j, j < ns ∧ v3 = nI j) → wX_ruleRefusal_36 post (nI i) v4 (nI n) 16 32 ph (nI c) (nI ne) (nI nr) (nI ns) kn K L R M A Z E r0 r1 rc F := fun g3 => by
    refine ⟨hii, ?_⟩
    rw [ci]
    by_cases e : r1 i = -1
    · exact br_t e (h0 g3 (fun z => absurd e z))
    · rcases hp_ix v4 (c := ns) (by omega) with ⟨j, hj, rfl⟩ | h5
      · exact br_f e (xi_s1 hj (by omega) (br_f (by decide) (h0 g3 (fun _ => ⟨j, hj, rfl⟩))))
      · exact br_f e (xi_s0 h5 (br_t rfl (h4 g3 e h5)))
  refine hb_i2 hi (by omega) ⟨hii, ?_⟩
  rw [ci]
  by_cases e : r0 i = -1
  · exact br_t e (main (fun z => absurd e z))
  · rcases hp_ix v3 (c := ns) (by omega) with ⟨j, hj, rfl⟩ | h5
    · exact br_f e (xi_s1 hj (by omega) (br_f (by decide) (main (fun _ => ⟨j, hj, rfl⟩))))
    · exact br_f e (xi_s0 h5 (br_t rfl (h3 e h5)))
theorem xi_rr0 {post : Int32 → Prop} {v2 v3 v4 : Int32} (h : v2 < 0 ∨ nI nr ≤ v2) (hp : post (-4)) : wpX_ruleRefusal post (nI n, 16, 32, ph, nI c, nI ne, nI nr, nI ns, kn, K, L, R, M, A, Z, E, r0, r1, rc, F) v2 v3 v4 := hb_o2 h hp
theorem st_9 (J : hx_J n c ne nr ns ph kn K L R M A Z E r0 r1 rc F) (p1 : ph = 1) (hns : ns < 32) (hi : i < nr) (hE : ∀ e : Int32, e < 0 → ((¬ r0 i = -1 ∧ (v3 < 0 ∨ nI ns ≤ v3)) ∨ (¬ r1 i = -1 ∧ (v4 < 0 ∨ nI ns ≤ v4))) → post e (nI n, 16, 32, ph, nI c, nI ne, nI nr, nI ns, kn, K, L, R, M, A, Z, E, r0, r1, rc, F)) {r : Int32} (hr : hp_z n A (r0 i) (r1 i) (rc i) (F v3.toNatClampNeg) (F v4.toNatClampNeg) r) (h0 : r = -1 → post (-10) (nI n, 16, 32, ph, nI c, nI ne, nI nr, nI ns, kn, K, L, R, M, A, Z, E, r0, r1, rc, F)) (h1 : (¬ r0 i = -1 → ∃ j, j < ns ∧ v3 = nI j) → (¬ r1 i = -1 → ∃ j, j < ns ∧ v4 = nI j) → ¬ r = -1 → post (nI ns) (nI n, 16, 32, ph, nI c, nI ne, nI nr, nI (ns + 1), kn, K, L, R, M, A, Z, E, r0, r1, rc, upd F ns r)) : wpX_step post (nI n, 16, 32, ph, nI c, nI ne, nI nr, nI ns, kn, K, L, R, M, A, Z, E, r0, r1, rc, F) (nI 9) (nI i) v3 v4 := by
  obtain ⟨b1, b2, b3, b4, b5, b6, b7⟩ := hj_b J
  have W := J.1.1
  have C := J.2.1.1
  refine br_f (by rw [p1]; decide) (br_t (nI_lt (b := 32) hns (by decide)) (br_f (by decide) (br_t (by decide) ?_)))
  refine br_f (by decide) (br_f (by decide) (br_f (by decide) (br_f (by decide) (br_f (by decide) (br_f (by decide) (br_f (by decide) (br_f (by decide) (br_f (by decide) (br_f (by decide) (br_f (by decide) (br_t rfl (?_))))))))))))
  refine xi_rr hi b5 (by omega) (fun g3 g4 => br_t (by decide) ?_) (fun e h3 => br_f (by decide) (hE _ (by decide) (Or.inl ⟨e, h3⟩))) (fun g3 e h4 => br_f (by decide) (hE _ (by decide) (Or.inr ⟨e, h4⟩)))
  have hy3 : ¬ r0 i = -1 → vp_in v3 32 := fun e => by
    obtain ⟨j, hj, rfl⟩ := g3 e
    exact vp_in_nI (by omega) (by decide)
  have hy4 : ¬ r1 i = -1 → vp_in v4 32 := fun e => by
    obtain ⟨j, hj, rfl⟩ := g4 e
    exact vp_in_nI (by omega) (by decide)
  exact br_f (by decide) (br_f (by decide) (br_f (by decide) (br_f (by decide) (br_f (by decide) (br_f (by decide) (br_f (by decide) (br_f (by decide) (br_f (by decide) (br_f (by decide) (br_f (by decide) (br_t rfl (xi_rf W J.2.2.1.2.1 hi b5 hy3 hy4 hr (sz_fin hns h0 (h1 g3 g4))))))))))))))
theorem st_any {v1 v2 v3 v4 : Int32} (J : hx_J n c ne nr ns ph kn K L R M A Z E r0 r1 rc F) (p1 : ph = 1) (hE : ∀ e : Int32, post e (nI n, 16, 32, ph, nI c, nI ne, nI nr, nI ns, kn, K, L, R, M, A, Z, E, r0, r1, rc, F)) (hS : ns < 32 → ∀ g, g < 256 → A g = nI g → ¬ Z g = -1 → post (nI ns) (nI n, 16, 32, ph, nI c, nI ne, nI nr, nI (ns + 1), kn, K, L, R, M, A, Z, E, r0, r1, rc, upd F ns (nI g))) : wpX_step post (nI n, 16, 32, ph, nI c, nI ne, nI nr, nI ns, kn, K, L, R, M, A, Z, E, r0, r1, rc, F) v1 v2 v3 v4 := by
  obtain ⟨b1, b2, b3, b4, b5, b6, b7⟩ := hj_b J
  have W := J.1.1
  have C := J.2.1.1
  obtain ⟨_, hY, _, hF⟩ := J.2.2.2.resolve_left (fun z => absurd (p1.symm.trans z.1) (by decide))
  have q0 : ¬ ph = 0 := by rw [p1]; decide
  have hH : ∀ x, x < 256 → ¬ Z x = -1 → hp_H Z 300 x := fun x hx z => by
    rcases hY.1 x hx with a | ⟨_, j, b, e⟩
    · exact absurd a z
    · exact ⟨j, by omega, e⟩
  by_cases hns : ns < 32
  · have hS := hS hns
    have hlt : nI ns < 32 := nI_lt (b := 32) hns (by decide)
    have cl : ∀ k u v r a b, hp_r K L R A k u v r → ¬ k = 0 → ¬ k = 1 → a < 256 → u = nI a → ¬ Z a = -1 → (k = 5 ∨ (b < 256 ∧ v = nI b ∧ ¬ Z b = -1)) → ¬ r = -1 → post (nI ns) (nI n, 16, 32, ph, nI c, nI ne, nI nr, nI (ns + 1), kn, K, L, R, M, A, Z, E, r0, r1, rc, upd F ns r) := fun k u v r a b hr k0 k1 ha ea za hb hn => by
      rcases hr with ⟨g, g1, rfl, g3, _⟩ | ⟨z, _⟩
      · refine hS g g1 g3.1 (hY.2.1 g ⟨g1, g3.1, Or.inl ⟨g3.1, ?_, ?_, ?_⟩⟩)
        · exact fun z => z.elim (fun y => k0 (g3.2.1.symm.trans y)) (fun y => k1 (g3.2.1.symm.trans y))
        · have : hp_i A (hp_l L g) = a := by
            unfold hp_i
            rw [g3.2.2.1, ea, nI_clamp (by omega)]
          rw [this]
          exact hH a ha za
        · rcases hb with k5 | ⟨hb, eb, zb⟩
          · exact Or.inl (g3.2.1.trans k5)
          · rcases g3.2.2.2 with k5 | y
            · exact Or.inl (g3.2.1.trans k5)
            · have : hp_i A (hp_l R g) = b := by
                unfold hp_i
                rw [y, eb, nI_clamp (by omega)]
              rw [this]
              exact Or.inr (hH b hb zb)
      · exact absurd z hn
    have ct : ∀ t g, t < 256 → A t = nI t → ¬ Z t = -1 → g < 256 → A g = nI g → hp_E K L R A Z 300 t g → post (nI ns) (nI n, 16, 32, ph, nI c, nI ne, nI nr, nI (ns + 1), kn, K, L, R, M, A, Z, E, r0, r1, rc, upd F ns (nI g)) := fun t g t1 t2 t3 g1 g2 e => hS g g1 g2 (hY.2.1 g ⟨g1, g2, Or.inr (Or.inl ⟨t, t1, t2, hH t t1 t3, e⟩)⟩)
    rcases hp_ix v1 (c := 10) (by omega) with ⟨i, hi, rfl⟩ | h
    · obtain rfl | rfl | rfl | rfl | rfl | rfl | rfl | rfl | rfl | rfl : i = 0 ∨ i = 1 ∨ i = 2 ∨ i = 3 ∨ i = 4 ∨ i = 5 ∨ i = 6 ∨ i = 7 ∨ i = 8 ∨ i = 9 := by omega
      · rcases hp_ix v2 (c := ne) (by omega) with ⟨i, hi, rfl⟩ | h2
        · refine st_0 J p1 hns hi ?_
          obtain ⟨h, x, hh, eh, x1, x2, x3, x4⟩ := he_x W C (J.2.2.1.1 i hi)
          have z0 := hY.2.2.2.2 i hi
          rw [x4] at z0
          rw [eh, nI_clamp (n := h) (by omega), x2]
          exact hS x x1 x3 (by rw [z0]; decide)
        · exact br_f (by rw [p1]; decide) (br_t (nI_lt (b := 32) hns (by decide)) (br_f (by decide) (br_t (by decide) (br_f (by decide) (br_f (by decide) (br_t rfl (hb_o h2 (br_f (by decide) (hE _)))))))))
      · rcases hp_ix v2 (c := ns) (by omega) with ⟨i, hi, rfl⟩ | h2
        · rcases hp_ix v3 (c := ns) (by omega) with ⟨j, hj, rfl⟩ | h3
          · obtain ⟨f, hf, ef, af, zf⟩ := hF i hi
            obtain ⟨g, hg, eg, ag, zg⟩ := hF j hj
            obtain ⟨r, hr⟩ := hr_ex (K := K) (L := L) (R := R) (A := A) 2 (F i) (F j)
            exact st_1 J p1 hns hi hj hr (fun _ => hE _) (cl _ _ _ r f g hr (by decide) (by decide) hf ef zf (Or.inr ⟨hg, eg, zg⟩))
          · exact br_f (by rw [p1]; decide) (br_t (nI_lt (b := 32) hns (by decide)) (br_f (by decide) (br_t (by decide) (br_f (by decide) (br_f (by decide) (br_f (by decide) (br_t rfl (xi_s1 hi (by omega) (br_f (by decide) (xi_s0 h3 (br_t rfl (br_f (by decide) (hE _)))))))))))))
        · exact br_f (by rw [p1]; decide) (br_t (nI_lt (b := 32) hns (by decide)) (br_f (by decide) (br_t (by decide) (br_f (by decide) (br_f (by decide) (br_f (by decide) (br_t rfl (xi_s0 h2 (br_t rfl (br_f (by decide) (hE _)))))))))))
      · rcases hp_ix v2 (c := ns) (by omega) with ⟨i, hi, rfl⟩ | h2
        · rcases hp_ix v3 (c := ns) (by omega) with ⟨j, hj, rfl⟩ | h3
          · obtain ⟨f, hf, ef, af, zf⟩ := hF i hi
            obtain ⟨g, hg, eg, ag, zg⟩ := hF j hj
            obtain ⟨r, hr⟩ := hr_ex (K := K) (L := L) (R := R) (A := A) 3 (F i) (F j)
            exact st_2 J p1 hns hi hj hr (fun _ => hE _) (cl _ _ _ r f g hr (by decide) (by decide) hf ef zf (Or.inr ⟨hg, eg, zg⟩))
          · exact br_f (by rw [p1]; decide) (br_t (nI_lt (b := 32) hns (by decide)) (br_f (by decide) (br_t (by decide) (br_f (by decide) (br_f (by decide) (br_f (by decide) (br_f (by decide) (br_t rfl (xi_s1 hi (by omega) (br_f (by decide) (xi_s0 h3 (br_t rfl (br_f (by decide) (hE _))))))))))))))
        · exact br_f (by rw [p1]; decide) (br_t (nI_lt (b := 32) hns (by decide)) (br_f (by decide) (br_t (by decide) (br_f (by decide) (br_f (by decide) (br_f (by decide) (br_f (by decide) (br_t rfl (xi_s0 h2 (br_t rfl (br_f (by decide) (hE _))))))))))))
      · rcases hp_ix v2 (c := ns) (by omega) with ⟨i, hi, rfl⟩ | h2
        · rcases hp_ix v3 (c := ns) (by omega) with ⟨j, hj, rfl⟩ | h3
          · obtain ⟨f, hf, ef, af, zf⟩ := hF i hi
            obtain ⟨g, hg, eg, ag, zg⟩ := hF j hj
            obtain ⟨r, hr⟩ := hr_ex (K := K) (L := L) (R := R) (A := A) 4 (F i) (F j)
            exact st_3 J p1 hns hi hj hr (fun _ => hE _) (cl _ _ _ r f g hr (by decide) (by decide) hf ef zf (Or.inr ⟨hg, eg, zg⟩))
          · exact br_f (by rw [p1]; decide) (br_t (nI_lt (b := 32) hns (by decide)) (br_f (by decide) (br_t (by decide) (br_f (by decide) (br_f (by decide) (br_f (by decide) (br_f (by decide) (br_f (by decide) (br_t rfl (xi_s1 hi (by omega) (br_f (by decide) (xi_s0 h3 (br_t rfl (br_f (by decide) (hE _)))))))))))))))
        · exact br_f (by rw [p1]; decide) (br_t (nI_lt (b := 32) hns (by decide)) (br_f (by decide) (br_t (by decide) (br_f (by decide) (br_f (by decide) (br_f (by decide) (br_f (by decide) (br_f (by decide) (br_t rfl (xi_s0 h2 (br_t rfl (br_f (by decide) (hE _)))))))))))))
      · rcases hp_ix v2 (c := ns) (by omega) with ⟨i, hi, rfl⟩ | h2
        · obtain ⟨f, hf, ef, af, zf⟩ := hF i hi
          obtain ⟨r, hr⟩ := hr_ex (K := K) (L := L) (R := R) (A := A) 5 (F i) (-1)
          exact st_4 J p1 hns hi hr (fun _ => hE _) (cl _ _ _ r f 0 hr (by decide) (by decide) hf ef zf (Or.inl rfl))
        · exact br_f (by rw [p1]; decide) (br_t (nI_lt (b := 32) hns (by decide)) (br_f (by decide) (br_t (by decide) (br_f (by decide) (br_f (by decide) (br_f (by decide) (br_f (by decide) (br_f (by decide) (br_f (by decide) (br_t rfl (xi_s0 h2 (br_t rfl (br_f (by decide) (hE _))))))))))))))
      · rcases hp_ix v2 (c := ns) (by omega) with ⟨i, hi, rfl⟩ | h2
        · obtain ⟨f, hf, ef, af, zf⟩ := hF i hi
          refine st_5 J p1 hns hi hf ef af (fun _ => hE _) (fun k2 => ?_)
          obtain ⟨l, x, _, _, _, x1, x2, x3, _⟩ := hc_l W C (hc_g C hf af) (hn_2 k2)
          rw [x2]
          exact ct f x hf af zf x1 x3 (Or.inl ⟨k2, Or.inl x2⟩)
        · exact br_f (by rw [p1]; decide) (br_t (nI_lt (b := 32) hns (by decide)) (br_f (by decide) (br_t (by decide) (br_f (by decide) (br_f (by decide) (br_f (by decide) (br_f (by decide) (br_f (by decide) (br_f (by decide) (br_f (by decide) (br_t rfl (xi_s0 h2 (br_t rfl (br_f (by decide) (hE _)))))))))))))))
      · rcases hp_ix v2 (c := ns) (by omega) with ⟨i, hi, rfl⟩ | h2
        · obtain ⟨f, hf, ef, af, zf⟩ := hF i hi
          refine st_6 J p1 hns hi hf ef af (fun _ => hE _) (fun k2 => ?_)
          obtain ⟨l, x, _, _, _, x1, x2, x3, _⟩ := hc_r W C (hc_g C hf af) (hn_2 k2) (by rw [k2]; decide)
          rw [x2]
          exact ct f x hf af zf x1 x3 (Or.inl ⟨k2, Or.inr x2⟩)
        · exact br_f (by rw [p1]; decide) (br_t (nI_lt (b := 32) hns (by decide)) (br_f (by decide) (br_t (by decide) (br_f (by decide) (br_f (by decide) (br_f (by decide) (br_f (by decide) (br_f (by decide) (br_f (by decide) (br_f (by decide) (br_f (by decide) (br_t rfl (xi_s0 h2 (br_t rfl (br_f (by decide) (hE _))))))))))))))))
      · rcases hp_ix v2 (c := ns) (by omega) with ⟨i, hi, rfl⟩ | h2
        · rcases hp_ix v3 (c := ns) (by omega) with ⟨j, hj, rfl⟩ | h3
          · obtain ⟨f, hf, ef, af, zf⟩ := hF i hi
            obtain ⟨g, hg, eg, ag, zg⟩ := hF j hj
            refine st_7 J p1 hns hi hj hf ef af (fun _ => hE _) (fun k3 e => ?_)
            obtain ⟨l, x, _, _, _, x1, x2, x3, _⟩ := hc_l W C (hc_g C hf af) (hn_3 k3)
            rw [x2]
            have e2 : hp_i A (hp_l R f) = g := by
              unfold hp_i
              rw [e, eg, nI_clamp (by omega)]
            exact ct f x hf af zf x1 x3 (Or.inr (Or.inl ⟨k3, x2, by rw [e2]; exact hH g hg zg⟩))
          · exact br_f (by rw [p1]; decide) (br_t (nI_lt (b := 32) hns (by decide)) (br_f (by decide) (br_t (by decide) (br_f (by decide) (br_f (by decide) (br_f (by decide) (br_f (by decide) (br_f (by decide) (br_f (by decide) (br_f (by decide) (br_f (by decide) (br_f (by decide) (br_t rfl (xi_s1 hi (by omega) (br_f (by decide) (xi_s0 h3 (br_t rfl (br_f (by decide) (hE _)))))))))))))))))))
        · exact br_f (by rw [p1]; decide) (br_t (nI_lt (b := 32) hns (by decide)) (br_f (by decide) (br_t (by decide) (br_f (by decide) (br_f (by decide) (br_f (by decide) (br_f (by decide) (br_f (by decide) (br_f (by decide) (br_f (by decide) (br_f (by decide) (br_f (by decide) (br_t rfl (xi_s0 h2 (br_t rfl (br_f (by decide) (hE _)))))))))))))))))
      · rcases hp_ix v2 (c := ns) (by omega) with ⟨i, hi, rfl⟩ | h2
        · rcases hp_ix v3 (c := ns) (by omega) with ⟨j, hj, rfl⟩ | h3
          · obtain ⟨f, hf, ef, af, zf⟩ := hF i hi
            obtain ⟨g, hg, eg, ag, zg⟩ := hF j hj
            refine st_8 J p1 hns hi hj hf ef af hg eg (fun _ => hE _) (fun k4 k5 e => ?_)
            obtain ⟨l, x, _, _, _, x1, x2, x3, _⟩ := hc_l W C (hc_g C hf af) (hn_4 k4)
            rw [x2]
            have e2 : hp_i A (hp_l L (hp_i A (hp_l R f))) = g := by
              show (A (hp_l L (hp_i A (hp_l R f)))).toNatClampNeg = g
              rw [e, eg, nI_clamp (by omega)]
            exact ct f x hf af zf x1 x3 (Or.inr (Or.inr ⟨k4, x2, k5, by rw [e2]; exact hH g hg zg⟩))
          · exact br_f (by rw [p1]; decide) (br_t (nI_lt (b := 32) hns (by decide)) (br_f (by decide) (br_t (by decide) (br_f (by decide) (br_f (by decide) (br_f (by decide) (br_f (by decide) (br_f (by decide) (br_f (by decide) (br_f (by decide) (br_f (by decide) (br_f (by decide) (br_f (by decide) (br_t rfl (xi_s1 hi (by omega) (br_f (by decide) (xi_s0 h3 (br_t rfl (br_f (by decide) (hE _))))))))))))))))))))
        · exact br_f (by rw [p1]; decide) (br_t (nI_lt (b := 32) hns (by decide)) (br_f (by decide) (br_t (by decide) (br_f (by decide) (br_f (by decide) (br_f (by decide) (br_f (by decide) (br_f (by decide) (br_f (by decide) (br_f (by decide) (br_f (by decide) (br_f (by decide) (br_f (by decide) (br_t rfl (xi_s0 h2 (br_t rfl (br_f (by decide) (hE _))))))))))))))))))
      · rcases hp_ix v2 (c := nr) (by omega) with ⟨i, hi, rfl⟩ | h2
        · obtain ⟨r, hr⟩ := hz_ex n A (r0 i) (r1 i) (rc i) (F v3.toNatClampNeg) (F v4.toNatClampNeg)
          refine st_9 J p1 hns hi (fun e _ _ => hE e) hr (fun _ => hE _) (fun g3 g4 hn => ?_)
          obtain ⟨h, hh, eh⟩ := (J.2.2.1.2.1 i hi).2.2
          have hm : ∀ (x : Int32) (v : Int32) s, (¬ x = -1 → ∃ j, j < ns ∧ v = nI j) → hp_b A x s (F v.toNatClampNeg) → hp_m A Z 300 x s := fun x v s g b => by
            by_cases e : x = -1
            · exact Or.inl e
            · obtain ⟨j, hj, rfl⟩ := g e
              have b := b.resolve_left e
              rw [nI_clamp (by omega)] at b
              obtain ⟨f, hf, ef, af, zf⟩ := hF j hj
              have e2 : hp_i A (x.toNatClampNeg * 16 + s) = f := by
                unfold hp_i
                rw [b, ef, nI_clamp (by omega)]
              exact Or.inr (by rw [e2]; exact hH f hf zf)
          rcases hr with ⟨s, s1, s2, ⟨s3, s4⟩, _, s5⟩ | ⟨z, _⟩
          · have e2 : (h * 16 + s) % 16 = s := by omega
            have e3 : (rc i).toNatClampNeg = h := by rw [eh, nI_clamp (by omega)]
            obtain ⟨x, x1, x2, x3, _⟩ := hc_p W C (t := h * 16 + s) ⟨by omega, by rw [e2]; exact s2⟩
            rw [s5, e3, x2]
            refine hS x x1 x3 (hY.2.1 x ⟨x1, x3, Or.inr (Or.inr ⟨i, s, hi, s1, s2, ?_, hm _ _ _ g3 s3, hm _ _ _ g4 s4⟩)⟩)
            rw [e3]; exact x2
          · exact absurd z hn
        · exact br_f (by rw [p1]; decide) (br_t (nI_lt (b := 32) hns (by decide)) (br_f (by decide) (br_t (by decide) (br_f (by decide) (br_f (by decide) (br_f (by decide) (br_f (by decide) (br_f (by decide) (br_f (by decide) (br_f (by decide) (br_f (by decide) (br_f (by decide) (br_f (by decide) (br_f (by decide) (br_t rfl (xi_rr0 h2 (br_f (by decide) (hE _))))))))))))))))))
    · by_cases z : v1 < 0
      · exact br_f q0 (br_t hlt (br_t z (hE _)))
      · have z9 : ¬ v1 ≤ 9 := Int32.not_le.mpr (Int32.lt_of_lt_of_le (nI_lt (a := 9) (b := 10) (by omega) (by omega)) (h.resolve_left z))
        exact br_f q0 (br_t hlt (br_f z (br_f z9 (hE _))))
  · exact br_f q0 (br_f (nI_nlt (b := 32) (by omega) (by omega)) (hE _))
end HST
end
section
/-! what the law reads: cells, remainders, looks at a state -/
theorem ha_99 {a : Nat} (h : a < 2 ^ 31) : ¬ nI a = -99 := by
  intro e
  have := nI_pos (n := a) h
  rw [e] at this
  exact this (by decide)
theorem lq_cell {post : Int32 → Prop} {Lx k : Nat} {xs : Nat → Int32} {u : St0} (hk : k < 1000) (hL : Lx ≤ 260) (h : ∀ v, post v) : wpL_cell post Lx xs u (nI k) := by
  by_cases e : Lx ≤ k
  · exact br_t (nI_le e (by omega)) (h 0)
  · exact br_f (nI_ge (by omega) (by omega)) ⟨vp_in_nI (by omega) (by omega), h _⟩
theorem lq_md {post : Int32 → Prop} {d : Nat} {x : Int32} {u : St0} (h0 : 0 < d) (hd : d < 1000) (h : ∀ r, r < d → post (nI r)) : wpL_md post u x (nI d) := by
  have et : (nI d).toInt = (d : Int) := nI_toInt (by omega)
  refine ⟨nI_ne0 h0 (by omega), fun y ey => ?_⟩
  have hy : y.toInt = x.toInt.tmod (d : Int) := by rw [ey, rem_toInt, et]
  have hb := tmod_bounds (a := x.toInt) (M := (d : Int)) (by omega)
  rw [← hy] at hb
  by_cases z : 0 ≤ y
  · refine br_t z ?_
    obtain ⟨j, hj, rfl⟩ := nI_of (x := y) (Int32.not_lt.mpr z)
    rw [nI_toInt hj] at hb
    exact h j (by omega)
  · refine br_f z ?_
    have zi : y.toInt < 0 := by
      have := Int32.not_le.mp z
      rw [Int32.lt_iff_toInt_lt] at this
      have e0 : (0 : Int32).toInt = 0 := by decide
      omega
    have e : y + nI d = nI (y.toInt + d).toNat := by
      apply Int32.toInt_inj.mp
      rw [Int32.toInt_add, et, nI_toInt (by omega), Int.bmod_eq_of_le (by omega) (by omega)]
      omega
    rw [e]
    exact h _ (by omega)
section HLK
variable {n c ne nr ns : Nat} {ph kn : Int32} {K L R M A Z E r0 r1 rc F : Nat → Int32} {post : Int32 → Prop} {j h a b g : Nat} {x : Int32}
theorem lc_0 (hp : post (nI c)) : wpX_count post (nI n, 16, 32, ph, nI c, nI ne, nI nr, nI ns, kn, K, L, R, M, A, Z, E, r0, r1, rc, F) 0 := br_f (by decide) (br_f (by decide) (br_t rfl hp))
theorem lc_1 (hp : post (nI ne)) : wpX_count post (nI n, 16, 32, ph, nI c, nI ne, nI nr, nI ns, kn, K, L, R, M, A, Z, E, r0, r1, rc, F) 1 := br_f (by decide) (br_f (by decide) (br_f (by decide) (br_t rfl hp)))
theorem lc_2 (hp : post (nI nr)) : wpX_count post (nI n, 16, 32, ph, nI c, nI ne, nI nr, nI ns, kn, K, L, R, M, A, Z, E, r0, r1, rc, F) 2 := br_f (by decide) (br_f (by decide) (br_f (by decide) (br_f (by decide) (br_t rfl hp))))
theorem lc_3 (hp : post (nI ns)) : wpX_count post (nI n, 16, 32, ph, nI c, nI ne, nI nr, nI ns, kn, K, L, R, M, A, Z, E, r0, r1, rc, F) 3 := br_f (by decide) (br_f (by decide) (br_f (by decide) (br_f (by decide) (br_f (by decide) (br_t rfl hp)))))
theorem lc_6 (h1 : ph = 1) (hp : post kn) : wpX_count post (nI n, 16, 32, ph, nI c, nI ne, nI nr, nI ns, kn, K, L, R, M, A, Z, E, r0, r1, rc, F) 6 := br_f (by decide) (br_f (by decide) (br_f (by decide) (br_f (by decide) (br_f (by decide) (br_f (by decide) (br_f (by decide) (br_f (by decide) (br_t rfl (br_f (by rw [h1]; decide) hp)))))))))
theorem lf_1 (hj : j < ns) (h32 : ns ≤ 32) (hp : post (F j)) : wpX_stepFact post (nI n, 16, 32, ph, nI c, nI ne, nI nr, nI ns, kn, K, L, R, M, A, Z, E, r0, r1, rc, F) (nI j) := by
  unfold wpX_stepFact
  refine xi_s1 hj (by omega) (br_f (by decide) ⟨vp_in_nI (by omega) (by decide), ?_⟩)
  rw [nI_clamp (by omega)]
  exact hp
theorem lf_0 (hj : x < 0 ∨ nI ns ≤ x) (hp : post (-9)) : wpX_stepFact post (nI n, 16, 32, ph, nI c, nI ne, nI nr, nI ns, kn, K, L, R, M, A, Z, E, r0, r1, rc, F) x := by
  unfold wpX_stepFact
  exact xi_s0 hj (br_t rfl hp)
theorem lk_1 (hh : h < c) (hc : c ≤ 16) (hp : post (K h)) : wpX_kindOf post (nI n, 16, 32, ph, nI c, nI ne, nI nr, nI ns, kn, K, L, R, M, A, Z, E, r0, r1, rc, F) (nI h) := by
  unfold wpX_kindOf
  refine xi_h1 hh (by omega) (br_f (by decide) ⟨vp_in_nI (by omega) (by decide), ?_⟩)
  rw [nI_clamp (by omega)]
  exact hp
theorem lh_0 (hh : h < c) (hc : c ≤ 16) (hp : post (L h)) : wpX_child post (nI n, 16, 32, ph, nI c, nI ne, nI nr, nI ns, kn, K, L, R, M, A, Z, E, r0, r1, rc, F) (nI h) 0 := by
  unfold wpX_child
  refine xi_h1 hh (by omega) (br_f (by decide) (br_t rfl (br_t rfl ⟨vp_in_nI (by omega) (by decide), ?_⟩)))
  rw [nI_clamp (by omega)]
  exact hp
theorem lh_1 (hh : h < c) (hc : c ≤ 16) (hp : post (R h)) : wpX_child post (nI n, 16, 32, ph, nI c, nI ne, nI nr, nI ns, kn, K, L, R, M, A, Z, E, r0, r1, rc, F) (nI h) 1 := by
  unfold wpX_child
  refine xi_h1 hh (by omega) (br_f (by decide) (br_f (by decide) (br_t rfl (br_f (by decide) ⟨vp_in_nI (by omega) (by decide), ?_⟩))))
  rw [nI_clamp (by omega)]
  exact hp
theorem le_1 (hj : j < ne) (h8 : ne ≤ 8) (hp : post (E j)) : wpX_entry post (nI n, 16, 32, ph, nI c, nI ne, nI nr, nI ns, kn, K, L, R, M, A, Z, E, r0, r1, rc, F) (nI j) := by
  refine hb_i hj (by omega) ⟨vp_in_nI (by omega) (by decide), ?_⟩
  rw [nI_clamp (by omega)]
  exact hp
theorem lt_r0 (hj : j < nr) (h8 : nr ≤ 8) (hp : post (r0 j)) : wpX_ruleTerm post (nI n, 16, 32, ph, nI c, nI ne, nI nr, nI ns, kn, K, L, R, M, A, Z, E, r0, r1, rc, F) (nI j) 0 := by
  refine hb_i2 hj (by omega) (br_f (by decide) (br_f (by decide) (br_t rfl ⟨vp_in_nI (by omega) (by decide), ?_⟩)))
  rw [nI_clamp (by omega)]
  exact hp
theorem lt_r1 (hj : j < nr) (h8 : nr ≤ 8) (hp : post (r1 j)) : wpX_ruleTerm post (nI n, 16, 32, ph, nI c, nI ne, nI nr, nI ns, kn, K, L, R, M, A, Z, E, r0, r1, rc, F) (nI j) 1 := by
  refine hb_i2 hj (by omega) (br_f (by decide) (br_f (by decide) (br_f (by decide) (br_t rfl ⟨vp_in_nI (by omega) (by decide), ?_⟩))))
  rw [nI_clamp (by omega)]
  exact hp
theorem lt_r2 (hj : j < nr) (h8 : nr ≤ 8) (hp : post (rc j)) : wpX_ruleTerm post (nI n, 16, 32, ph, nI c, nI ne, nI nr, nI ns, kn, K, L, R, M, A, Z, E, r0, r1, rc, F) (nI j) 2 := by
  refine hb_i2 hj (by omega) (br_f (by decide) (br_f (by decide) (br_f (by decide) (br_f (by decide) (br_t rfl ⟨vp_in_nI (by omega) (by decide), ?_⟩)))))
  rw [nI_clamp (by omega)]
  exact hp
theorem lr_1 (J : hx_J n c ne nr ns ph kn K L R M A Z E r0 r1 rc F) (p1 : ph = 1) (hj : j < c) (ha : a < n) (hb : b < n) {w : Nat} (hw : A (j * 16 + (4 * b + a)) = nI w) (h256 : w < 256) (hp : post (Z w)) : wpX_rank post (nI n, 16, 32, ph, nI c, nI ne, nI nr, nI ns, kn, K, L, R, M, A, Z, E, r0, r1, rc, F) (nI j) (nI a) (nI b) := by
  obtain ⟨b1, b2, b3, b4, b5, b6, b7⟩ := hj_b J
  refine br_f (by rw [p1]; decide) (xg_id b3 b1 hj ha hb ?_)
  rw [hw]
  refine br_t (nI_pos' (by omega)) ⟨vp_in_nI h256 (by decide), ?_⟩
  rw [nI_clamp (by omega)]
  exact hp
/-- a place's ground id, by its handle and the two names of its code -/
theorem lg_p (J : hx_J n c ne nr ns ph kn K L R M A Z E r0 r1 rc F) {p : Nat} (hp : p / 16 < c) (hv : hp_V n (p % 16)) (h : post (A p)) : wpX_groundId post (nI n, 16, 32, ph, nI c, nI ne, nI nr, nI ns, kn, K, L, R, M, A, Z, E, r0, r1, rc, F) (nI (p / 16)) (nI (p % 4)) (nI (p / 4 % 4)) := by
  obtain ⟨b1, b2, b3, b4, b5, b6, b7⟩ := hj_b J
  have v1 := hv.1
  have v2 := hv.2
  refine xg_id b3 b1 hp (by omega) (by omega) ?_
  rw [show p / 16 * 16 + (4 * (p / 4 % 4) + p % 4) = p by omega]
  exact h
/-- .. of its left part, of its right part -/
theorem lg_l (J : hx_J n c ne nr ns ph kn K L R M A Z E r0 r1 rc F) {p l : Nat} (hl : l < c) (hv : hp_V n (p % 16)) (h : post (A (l * 16 + p % 16))) : wpX_groundId post (nI n, 16, 32, ph, nI c, nI ne, nI nr, nI ns, kn, K, L, R, M, A, Z, E, r0, r1, rc, F) (nI l) (nI (p % 4)) (nI (p / 4 % 4)) := by
  obtain ⟨b1, b2, b3, b4, b5, b6, b7⟩ := hj_b J
  have v1 := hv.1
  have v2 := hv.2
  refine xg_id b3 b1 hl (by omega) (by omega) ?_
  rw [show l * 16 + (4 * (p / 4 % 4) + p % 4) = l * 16 + p % 16 by omega]
  exact h
end HLK
theorem ha_s24 {a : Nat} (h : a < 2 ^ 31) : (nI a >>> ((2 : Int32) &&& 31)) &&& 3 = nI (a / 4 % 4) := by
  rw [ha_s2 h, ha_a3 (by omega)]
end
section
/-! the law's search once its step is found: it goes through to the next id -/
abbrev hq_T10 : Type := Int32 → Int32 → Int32 → Int32 → Int32 → Int32 → Int32 → Int32 → Int32 → Int32 → (Nat → Int32) → (Nat → Int32) → (Nat → Int32) → (Nat → Int32) → (Nat → Int32) → (Nat → Int32) → (Nat → Int32) → (Nat → Int32) → (Nat → Int32) → (Nat → Int32) → (Nat → Int32) → Prop
abbrev hq_T11 : Type := Int32 → hq_T10
def hq_b (b : Bool) (P Q : Prop) : Prop := match b with
  | true => P
  | false => Q
section HDN
variable {n c ne nr ns : Nat} {ph kn : Int32} {K L R M A Z E r0 r1 rc F : Nat → Int32} {post : Int32 → Prop} {Lx : Nat} {xs : Nat → Int32} {J507 J517 : hq_T10} {q1 q3 q5 q12 q13 q15 q16 : Int32} {kc ks g : Nat} {jr : Nat} {x21 x24 x25 x26 : Int32}
theorem ld_1427 (hj : jr < ns) (h32 : ns ≤ 32) (e : F jr = nI g) (h : J517 (nI (g + 1)) (nI n) 16 32 ph (nI c) (nI ne) (nI nr) (nI ns) kn K L R M A Z E r0 r1 rc F) : wL_law_1427 post Lx xs J507 J517 q1 q3 q5 q12 q13 q15 q16 (nI g) (nI jr) kc ks (nI n) 16 32 ph (nI c) (nI ne) (nI nr) (nI ns) kn K L R M A Z E r0 r1 rc F := by
  refine br_f (nI_pos (by omega)) (lf_1 hj h32 ?_)
  exact br_t e (nm_r (nI_1 g) h)
theorem ld_1169 (hj : jr < ns) (h32 : ns ≤ 32) (e : F jr = nI g) (h : J517 (nI (g + 1)) (nI n) 16 32 ph (nI c) (nI ne) (nI nr) (nI ns) kn K L R M A Z E r0 r1 rc F) (f : Nat) (x : Int32) : wL_law_1169 post Lx xs J507 J517 q1 q3 q5 q12 q13 q15 q16 (nI g) x21 kc ks (f + 1) (nI jr) x (nI n) 16 32 ph (nI c) (nI ne) (nI nr) (nI ns) kn K L R M A Z E r0 r1 rc F := by
  unfold wL_law_1169
  refine lc_2 ?_
  by_cases z : nI nr ≤ x
  · exact br_t z (ld_1427 hj h32 e h)
  · exact br_f z (br_f (ha_99 (by omega)) (ld_1427 hj h32 e h))
theorem ld_893 (hj : jr < ns) (h32 : ns ≤ 32) (e : F jr = nI g) (h : J517 (nI (g + 1)) (nI n) 16 32 ph (nI c) (nI ne) (nI nr) (nI ns) kn K L R M A Z E r0 r1 rc F) (f : Nat) (x : Int32) : wL_law_893 post Lx xs J507 J517 q1 q3 q5 q12 q13 q15 q16 (nI g) x21 kc ks (f + 1) (nI jr) x (nI n) 16 32 ph (nI c) (nI ne) (nI nr) (nI ns) kn K L R M A Z E r0 r1 rc F := by
  by_cases z : x21 ≤ x
  · exact br_t z ⟨1, ld_1169 hj h32 e h 0 0⟩
  · exact br_f z (br_f (ha_99 (by omega)) ⟨1, ld_1169 hj h32 e h 0 0⟩)
theorem ld_798 (hj : jr < ns) (h32 : ns ≤ 32) (e : F jr = nI g) (h : J517 (nI (g + 1)) (nI n) 16 32 ph (nI c) (nI ne) (nI nr) (nI ns) kn K L R M A Z E r0 r1 rc F) (f : Nat) (x : Int32) : wL_law_798 post Lx xs J507 J517 q1 q3 q5 q12 q13 q15 q16 (nI g) x21 x24 x25 x26 kc ks (f + 1) (nI jr) x (nI n) 16 32 ph (nI c) (nI ne) (nI nr) (nI ns) kn K L R M A Z E r0 r1 rc F := by
  by_cases z : x21 ≤ x
  · exact br_t z ⟨1, ld_893 hj h32 e h 0 0⟩
  · exact br_f z (br_f (ha_99 (by omega)) ⟨1, ld_893 hj h32 e h 0 0⟩)
/-- what the law reads of the id itself: its parts' ids -/
theorem ld_735 {x23 : Int32} (J : hx_J n c ne nr ns ph kn K L R M A Z E r0 r1 rc F) (hg : g < 256) (hA : A g = nI g)
    (h : ∀ u v, (¬ hp_a K g → u = A (hp_l L g)) → (¬ hp_a K g → ¬ K (g / 16) = 5 → v = A (hp_l R g)) → ∃ f, wL_law_798 post Lx xs J507 J517 q1 q3 q5 q12 q13 q15 q16 (nI g) x21 (K (g / 16)) u v kc ks f x23 0 (nI n) 16 32 ph (nI c) (nI ne) (nI nr) (nI ns) kn K L R M A Z E r0 r1 rc F) :
    wL_law_735 post Lx xs J507 J517 q1 q3 q5 q12 q13 q15 q16 (nI g) (nI (g / 16)) (nI (g % 4)) (nI (g / 4 % 4)) x21 x23 (K (g / 16)) kc ks (nI n) 16 32 ph (nI c) (nI ne) (nI nr) (nI ns) kn K L R M A Z E r0 r1 rc F := by
  obtain ⟨b1, b2, b3, b4, b5, b6, b7⟩ := hj_b J
  have W := J.1.1
  have C := J.2.1.1
  have hv := hc_g C hg hA
  by_cases k0 : K (g / 16) = 0
  · have na : ¬ ¬ hp_a K g := fun z => z (Or.inl k0)
    have l2 : K (g / 16) < 2 := by rw [k0]; decide
    exact br_t l2 (br_t l2 (h _ _ (fun z => absurd z na) (fun z => absurd z na)))
  · have na : ¬ hp_a K g := fun z => z.elim k0 (hc_nv W C hg hA)
    obtain ⟨_, ⟨l, hl, el⟩, hR⟩ := hw_na na W hv.1
    have ell : hp_l L g = l * 16 + g % 16 := by
      unfold hp_l
      rw [el, nI_clamp (by omega)]
    have n2 : ¬ K (g / 16) < 2 := by
      rcases hR with ⟨e, _⟩ | ⟨e | e | e, _⟩ <;> rw [e] <;> decide
    refine br_f n2 (lh_0 hv.1 b3 ?_)
    rw [el]
    refine lg_l J (by omega) hv.2 (br_f n2 ?_)
    rcases hR with ⟨k5, _⟩ | ⟨k234, r, hr, er⟩
    · exact br_t (by rw [k5]; decide) (h _ _ (fun _ => by rw [ell]) (fun _ z => absurd k5 z))
    · have n4 : ¬ (4 : Int32) < K (g / 16) := by rcases k234 with e | e | e <;> rw [e] <;> decide
      have err : hp_l R g = r * 16 + g % 16 := by
        unfold hp_l
        rw [er, nI_clamp (by omega)]
      refine br_f n4 (lh_1 hv.1 b3 ?_)
      rw [er]
      exact lg_l J (by omega) hv.2 (h _ _ (fun _ => by rw [ell]) (fun _ _ => by rw [err]))
theorem ld_735d (J : hx_J n c ne nr ns ph kn K L R M A Z E r0 r1 rc F) (hg : g < 256) (hA : A g = nI g) (hj : jr < ns) (e : F jr = nI g) (h : J517 (nI (g + 1)) (nI n) 16 32 ph (nI c) (nI ne) (nI nr) (nI ns) kn K L R M A Z E r0 r1 rc F) : wL_law_735 post Lx xs J507 J517 q1 q3 q5 q12 q13 q15 q16 (nI g) (nI (g / 16)) (nI (g % 4)) (nI (g / 4 % 4)) x21 (nI jr) (K (g / 16)) kc ks (nI n) 16 32 ph (nI c) (nI ne) (nI nr) (nI ns) kn K L R M A Z E r0 r1 rc F :=
  ld_735 J hg hA (fun u v _ _ => ⟨1, ld_798 hj (hj_b J).2.2.2.2.2.1 e h 0 0⟩)
theorem ld_684 (J : hx_J n c ne nr ns ph kn K L R M A Z E r0 r1 rc F) (hg : g < 256) (hA : A g = nI g) (hj : jr < ns) (e : F jr = nI g) (h : J517 (nI (g + 1)) (nI n) 16 32 ph (nI c) (nI ne) (nI nr) (nI ns) kn K L R M A Z E r0 r1 rc F) (f : Nat) (x : Int32) : wL_law_684 post Lx xs J507 J517 q1 q3 q5 q12 q13 q15 q16 (nI g) (nI (g / 16)) (nI (g % 4)) (nI (g / 4 % 4)) x21 (K (g / 16)) kc ks (f + 1) (nI jr) x (nI n) 16 32 ph (nI c) (nI ne) (nI nr) (nI ns) kn K L R M A Z E r0 r1 rc F := by
  have b := (hj_b J).2.2.2.2.2.1
  unfold wL_law_684
  refine lc_1 ?_
  by_cases z : nI ne ≤ x
  · exact br_t z (ld_735d J hg hA hj e h)
  · exact br_f z (br_f (ha_99 (by omega)) (ld_735d J hg hA hj e h))
end HDN
end
section
/-! the law's search: by an entry, by composing -/
section HSA
variable {n c ne nr ns : Nat} {ph kn : Int32} {K L R M A Z E r0 r1 rc F : Nat → Int32} {post : Int32 → Prop} {Lx : Nat} {xs : Nat → Int32} {J507 J517 : hq_T10} {q1 q3 q5 q12 q13 q15 q16 : Int32} {kc ks g : Nat} {x21 : Int32}
theorem ls_A (J : hx_J n c ne nr ns ph kn K L R M A Z E r0 r1 rc F) (p1 : ph = 1) (hns : ns < 32) (hg : g < 256) (hA : A g = nI g) (J1 : hx_J n c ne nr (ns + 1) ph kn K L R M A Z E r0 r1 rc (upd F ns (nI g))) (h1 : J517 (nI (g + 1)) (nI n) 16 32 ph (nI c) (nI ne) (nI nr) (nI (ns + 1)) kn K L R M A Z E r0 r1 rc (upd F ns (nI g)))
    (h0 : (∀ e, e < ne → ¬ A ((E e).toNatClampNeg * 16) = nI g) → wL_law_735 post Lx xs J507 J517 q1 q3 q5 q12 q13 q15 q16 (nI g) (nI (g / 16)) (nI (g % 4)) (nI (g / 4 % 4)) x21 (-99) (K (g / 16)) kc ks (nI n) 16 32 ph (nI c) (nI ne) (nI nr) (nI ns) kn K L R M A Z E r0 r1 rc F) :
    ∃ f, wL_law_684 post Lx xs J507 J517 q1 q3 q5 q12 q13 q15 q16 (nI g) (nI (g / 16)) (nI (g % 4)) (nI (g / 4 % 4)) x21 (K (g / 16)) kc ks f (-99) 0 (nI n) 16 32 ph (nI c) (nI ne) (nI nr) (nI ns) kn K L R M A Z E r0 r1 rc F := by
  obtain ⟨b1, b2, b3, b4, b5, b6, b7⟩ := hj_b J
  have W := J.1.1
  have C := J.2.1.1
  refine pk_loop (σ := Bool) (fun f i b => hq_b b (wL_law_684 post Lx xs J507 J517 q1 q3 q5 q12 q13 q15 q16 (nI g) (nI (g / 16)) (nI (g % 4)) (nI (g / 4 % 4)) x21 (K (g / 16)) kc ks f (nI ns) (nI i) (nI n) 16 32 ph (nI c) (nI ne) (nI nr) (nI (ns + 1)) kn K L R M A Z E r0 r1 rc (upd F ns (nI g))) (wL_law_684 post Lx xs J507 J517 q1 q3 q5 q12 q13 q15 q16 (nI g) (nI (g / 16)) (nI (g % 4)) (nI (g / 4 % 4)) x21 (K (g / 16)) kc ks f (-99) (nI i) (nI n) 16 32 ph (nI c) (nI ne) (nI nr) (nI ns) kn K L R M A Z E r0 r1 rc F))
    (fun i b => hq_b b True (∀ e, e < i → ¬ A ((E e).toNatClampNeg * 16) = nI g)) ne 0 false (by omega) (fun q hq => absurd hq (Nat.not_lt_zero q)) ?_ ?_
  · intro f b hb
    cases b with
    | true => exact ld_684 J1 hg hA (Nat.lt_succ_self ns) pk_us h1 f _
    | false =>
      show wL_law_684 post Lx xs J507 J517 q1 q3 q5 q12 q13 q15 q16 (nI g) (nI (g / 16)) (nI (g % 4)) (nI (g / 4 % 4)) x21 (K (g / 16)) kc ks (f + 1) (-99) (nI ne) (nI n) 16 32 ph (nI c) (nI ne) (nI nr) (nI ns) kn K L R M A Z E r0 r1 rc F
      unfold wL_law_684
      exact lc_1 (br_t (nI_le (Nat.le_refl _) (by omega)) (h0 hb))
  · intro f i b hi hb nx
    cases b with
    | true => exact ld_684 J1 hg hA (Nat.lt_succ_self ns) pk_us h1 f _
    | false =>
      obtain ⟨h, x, hh, eh, x1, x2, x3, x4⟩ := he_x W C (J.2.2.1.1 i hi)
      obtain ⟨h', hh', eh'⟩ := J.2.2.1.1 i hi
      have e' : h = h' := ha_eq (eh.symm.trans eh') (by omega) (by omega)
      have ee : (E i).toNatClampNeg * 16 = h * 16 := by rw [eh, nI_clamp (by omega)]
      show wL_law_684 post Lx xs J507 J517 q1 q3 q5 q12 q13 q15 q16 (nI g) (nI (g / 16)) (nI (g % 4)) (nI (g / 4 % 4)) x21 (K (g / 16)) kc ks (f + 1) (-99) (nI i) (nI n) 16 32 ph (nI c) (nI ne) (nI nr) (nI ns) kn K L R M A Z E r0 r1 rc F
      unfold wL_law_684
      refine lc_1 (br_f (nI_ge hi (by omega)) (br_t rfl (le_1 hi b4 ?_)))
      rw [eh]
      refine xg_id (a := 0) (b := 0) b3 b1 (by omega) (by omega) (by omega) ?_
      by_cases e : A (h * 16) = nI g
      · refine br_t e (st_0 J p1 hns hi ?_)
        rw [ee, e]
        exact nm_r (nI_1 i) (nx true trivial)
      · exact br_f e (nm_r (nI_1 i) (nx false (lt_s hb (by rw [ee]; exact e))))
def hp_ab (K L R A F : Nat → Int32) (g a b : Nat) : Prop := ¬ hp_a K g ∧ F a = A (hp_l L g) ∧ (K (g / 16) = 5 ∨ F b = A (hp_l R g))
theorem hq_r {a b : Nat} (C : hp_C n c K L R A) (hg : g < 256) (hA : A g = nI g) (m : hp_ab K L R A F g a b) : hp_r K L R A (K (g / 16)) (F a) (F b) (nI g) := by
  refine Or.inl ⟨g, hg, rfl, ⟨hA, rfl, m.2.1.symm, m.2.2.imp id Eq.symm⟩, fun q hq z => ?_⟩
  have s : hp_S K L R A g q := Or.inr ⟨m.1, z.2.1.symm, by rw [z.2.2.1, m.2.1], ?_⟩
  · have := hc_u C hg (by omega) hA z.1 s
    omega
  · rcases m.2.2 with k5 | e
    · exact Or.inl k5
    · rcases z.2.2.2 with k5 | y
      · exact Or.inl k5
      · exact Or.inr (by rw [y, e])
theorem ls_B (J : hx_J n c ne nr ns ph kn K L R M A Z E r0 r1 rc F) (p1 : ph = 1) (hns : ns < 32) (hg : g < 256) (hA : A g = nI g) (J1 : hx_J n c ne nr (ns + 1) ph kn K L R M A Z E r0 r1 rc (upd F ns (nI g))) (h1 : J517 (nI (g + 1)) (nI n) 16 32 ph (nI c) (nI ne) (nI nr) (nI (ns + 1)) kn K L R M A Z E r0 r1 rc (upd F ns (nI g))) {u v : Int32} (hu : ¬ hp_a K g → u = A (hp_l L g)) (hv : ¬ hp_a K g → ¬ K (g / 16) = 5 → v = A (hp_l R g))
    (h0 : (∀ a b, a < ns → b < ns → ¬ hp_ab K L R A F g a b) → ∃ f, wL_law_893 post Lx xs J507 J517 q1 q3 q5 q12 q13 q15 q16 (nI g) (nI ns) kc ks f (-99) 0 (nI n) 16 32 ph (nI c) (nI ne) (nI nr) (nI ns) kn K L R M A Z E r0 r1 rc F) : ∃ f, wL_law_798 post Lx xs J507 J517 q1 q3 q5 q12 q13 q15 q16 (nI g) (nI ns) (K (g / 16)) u v kc ks f (-99) 0 (nI n) 16 32 ph (nI c) (nI ne) (nI nr) (nI ns) kn K L R M A Z E r0 r1 rc F := by
  obtain ⟨b1, b2, b3, b4, b5, b6, b7⟩ := hj_b J
  have W := J.1.1
  have C := J.2.1.1
  have gv := hc_g C hg hA
  refine pk_loop (σ := Bool) (fun f a b => hq_b b (wL_law_798 post Lx xs J507 J517 q1 q3 q5 q12 q13 q15 q16 (nI g) (nI ns) (K (g / 16)) u v kc ks f (nI ns) (nI a) (nI n) 16 32 ph (nI c) (nI ne) (nI nr) (nI (ns + 1)) kn K L R M A Z E r0 r1 rc (upd F ns (nI g))) (wL_law_798 post Lx xs J507 J517 q1 q3 q5 q12 q13 q15 q16 (nI g) (nI ns) (K (g / 16)) u v kc ks f (-99) (nI a) (nI n) 16 32 ph (nI c) (nI ne) (nI nr) (nI ns) kn K L R M A Z E r0 r1 rc F))
    (fun a b => hq_b b True (∀ a', a' < a → ∀ b, b < ns → ¬ hp_ab K L R A F g a' b)) ns 0 false (by omega) (fun q hq => absurd hq (Nat.not_lt_zero q)) ?_ ?_
  · intro f b hb
    cases b with
    | true => exact ld_798 (Nat.lt_succ_self ns) (by omega) pk_us h1 f _
    | false => exact br_t (nI_le (Nat.le_refl _) (by omega)) (h0 (fun a b ha hb' => hb a ha b hb'))
  · intro f a b ha hb nx
    cases b with
    | true => exact ld_798 (Nat.lt_succ_self ns) (by omega) pk_us h1 f _
    | false =>
      have nt := nx true trivial
      refine br_f (nI_ge ha (by omega)) (br_t rfl ?_)
      refine pk_loop (σ := Bool) (fun f' b' bb => hq_b bb (wL_law_815 post Lx xs J507 J517 (wL_law_798 post Lx xs J507 J517 q1 q3 q5 q12 q13 q15 q16 (nI g) (nI ns) (K (g / 16)) u v kc ks f) q1 q3 q5 q12 q13 q15 q16 (nI g) (nI ns) (K (g / 16)) u v (nI a) kc ks f' (nI ns) (nI b') (nI n) 16 32 ph (nI c) (nI ne) (nI nr) (nI (ns + 1)) kn K L R M A Z E r0 r1 rc (upd F ns (nI g))) (wL_law_815 post Lx xs J507 J517 (wL_law_798 post Lx xs J507 J517 q1 q3 q5 q12 q13 q15 q16 (nI g) (nI ns) (K (g / 16)) u v kc ks f) q1 q3 q5 q12 q13 q15 q16 (nI g) (nI ns) (K (g / 16)) u v (nI a) kc ks f' (-99) (nI b') (nI n) 16 32 ph (nI c) (nI ne) (nI nr) (nI ns) kn K L R M A Z E r0 r1 rc F))
        (fun b' bb => hq_b bb True (∀ x, x < b' → ¬ hp_ab K L R A F g a x)) ns 0 false (by omega) (fun q hq => absurd hq (Nat.not_lt_zero q)) ?_ ?_
      · intro f' bb hbb
        cases bb with
        | true => exact br_t (nI_le (Nat.le_refl _) (by omega)) (nm_r (nI_1 a) nt)
        | false => exact br_t (nI_le (Nat.le_refl _) (by omega)) (nm_r (nI_1 a) (nx false (lt_s hb hbb)))
      · intro f' b' bb hb' hbb ny
        cases bb with
        | true => exact br_f (nI_ge hb' (by omega)) (br_f (ha_99 (by omega)) (nm_r (nI_1 a) nt))
        | false =>
          have nn : ¬ hp_ab K L R A F g a b' → ∀ x, x = nI b' + 1 → wL_law_815 post Lx xs J507 J517 (wL_law_798 post Lx xs J507 J517 q1 q3 q5 q12 q13 q15 q16 (nI g) (nI ns) (K (g / 16)) u v kc ks f) q1 q3 q5 q12 q13 q15 q16 (nI g) (nI ns) (K (g / 16)) u v (nI a) kc ks f' (-99) x (nI n) 16 32 ph (nI c) (nI ne) (nI nr) (nI ns) kn K L R M A Z E r0 r1 rc F := fun z => nm_r (nI_1 b') (ny false (lt_s hbb z))
          refine br_f (nI_ge hb' (by omega)) (br_t rfl ?_)
          by_cases k0 : K (g / 16) = 0
          · exact br_t (by rw [k0]; decide) (nn (fun z => z.1 (Or.inl k0)))
          · have na : ¬ hp_a K g := fun z => z.elim k0 (hc_nv W C hg hA)
            have hR := (hw_na na W gv.1).2.2
            have n2 : ¬ K (g / 16) < 2 := by
              rcases hR with ⟨e, _⟩ | ⟨e | e | e, _⟩ <;> rw [e] <;> decide
            have fnd : hp_ab K L R A F g a b' → wL_law_863 post Lx xs J507 J517 (wL_law_798 post Lx xs J507 J517 q1 q3 q5 q12 q13 q15 q16 (nI g) (nI ns) (K (g / 16)) u v kc ks f) (wL_law_815 post Lx xs J507 J517 (wL_law_798 post Lx xs J507 J517 q1 q3 q5 q12 q13 q15 q16 (nI g) (nI ns) (K (g / 16)) u v kc ks f) q1 q3 q5 q12 q13 q15 q16 (nI g) (nI ns) (K (g / 16)) u v (nI a) kc ks f') q1 q3 q5 q12 q13 q15 q16 (nI g) (nI ns) (K (g / 16)) u v (nI a) (nI b') kc ks (nI n) 16 32 ph (nI c) (nI ne) (nI nr) (nI ns) kn K L R M A Z E r0 r1 rc F := fun m => by
              have hr := hq_r C hg hA m
              have ne : ¬ nI g = -1 := ha_ne1 (by omega)
              unfold wL_law_863
              rcases hR with ⟨k5, _⟩ | ⟨k | k | k, _⟩
              · have ek : K (g / 16) - 1 = nI 4 := by rw [k5]; decide
                rw [k5] at hr
                rw [ek]
                exact st_4 J p1 hns ha (hr_5 hr) (fun z => absurd z ne) (fun _ => nm_r (nI_1 b') (ny true trivial))
              · have ek : K (g / 16) - 1 = nI 1 := by rw [k]; decide
                rw [k] at hr
                rw [ek]
                exact st_1 J p1 hns ha hb' hr (fun z => absurd z ne) (fun _ => nm_r (nI_1 b') (ny true trivial))
              · have ek : K (g / 16) - 1 = nI 2 := by rw [k]; decide
                rw [k] at hr
                rw [ek]
                exact st_2 J p1 hns ha hb' hr (fun z => absurd z ne) (fun _ => nm_r (nI_1 b') (ny true trivial))
              · have ek : K (g / 16) - 1 = nI 3 := by rw [k]; decide
                rw [k] at hr
                rw [ek]
                exact st_3 J p1 hns ha hb' hr (fun z => absurd z ne) (fun _ => nm_r (nI_1 b') (ny true trivial))
            have hu := hu na
            refine br_f n2 (lf_1 ha b6 ?_)
            by_cases e1 : F a = u
            · refine br_t e1 ?_
              by_cases k5 : K (g / 16) = 5
              · exact br_t k5 (fnd ⟨na, e1.trans hu, Or.inl k5⟩)
              · have hv := hv na k5
                refine br_f k5 (lf_1 hb' b6 ?_)
                by_cases e2 : F b' = v
                · exact br_t e2 (fnd ⟨na, e1.trans hu, Or.inr (e2.trans hv)⟩)
                · exact br_f e2 (nn (fun z => z.2.2.elim k5 (fun y => e2 (y.trans hv.symm))))
            · exact br_f e1 (nn (fun z => e1 (z.2.1.trans hu.symm)))
end HSA
end
section
/-! the law's search: by taking apart -/
section HSC
variable {n c ne nr ns : Nat} {ph kn : Int32} {K L R M A Z E r0 r1 rc F : Nat → Int32} {post : Int32 → Prop} {Lx : Nat} {xs : Nat → Int32} {J507 J517 : hq_T10} {q1 q3 q5 q12 q13 q15 q16 : Int32} {kc ks g : Nat}
theorem ls_1100 {J893 : hq_T11} {a : Nat} {x32 key : Int32} (hns : ns < 32) (hk : key = -1 ∨ ∃ y, y < 256 ∧ key = nI y)
    (hs3 : x32 = 3 → ∀ b, b < ns → F b = key → ∀ P : Int32 → St2 → Prop, P (nI ns) (nI n, 16, 32, ph, nI c, nI ne, nI nr, nI (ns + 1), kn, K, L, R, M, A, Z, E, r0, r1, rc, upd F ns (nI g)) → wpX_step P (nI n, 16, 32, ph, nI c, nI ne, nI nr, nI ns, kn, K, L, R, M, A, Z, E, r0, r1, rc, F) 7 (nI a) (nI b) 0)
    (hs4 : ¬ x32 = 3 → ∀ b, b < ns → F b = key → ∀ P : Int32 → St2 → Prop, P (nI ns) (nI n, 16, 32, ph, nI c, nI ne, nI nr, nI (ns + 1), kn, K, L, R, M, A, Z, E, r0, r1, rc, upd F ns (nI g)) → wpX_step P (nI n, 16, 32, ph, nI c, nI ne, nI nr, nI ns, kn, K, L, R, M, A, Z, E, r0, r1, rc, F) 8 (nI a) (nI b) 0)
    (nt : J893 (nI ns) (nI (a + 1)) (nI n) 16 32 ph (nI c) (nI ne) (nI nr) (nI (ns + 1)) kn K L R M A Z E r0 r1 rc (upd F ns (nI g))) (h0 : (∀ b, b < ns → ¬ (F b = key ∧ ¬ key = -1)) → J893 (-99) (nI (a + 1)) (nI n) 16 32 ph (nI c) (nI ne) (nI nr) (nI ns) kn K L R M A Z E r0 r1 rc F) :
    ∃ f, wL_law_1100 post Lx xs J507 J517 J893 q1 q3 q5 q12 q13 q15 q16 (nI g) (nI ns) (nI a) x32 key kc ks f (-99) 0 (nI n) 16 32 ph (nI c) (nI ne) (nI nr) (nI ns) kn K L R M A Z E r0 r1 rc F := by
  refine pk_loop (σ := Bool) (fun f b bb => hq_b bb (wL_law_1100 post Lx xs J507 J517 J893 q1 q3 q5 q12 q13 q15 q16 (nI g) (nI ns) (nI a) x32 key kc ks f (nI ns) (nI b) (nI n) 16 32 ph (nI c) (nI ne) (nI nr) (nI (ns + 1)) kn K L R M A Z E r0 r1 rc (upd F ns (nI g))) (wL_law_1100 post Lx xs J507 J517 J893 q1 q3 q5 q12 q13 q15 q16 (nI g) (nI ns) (nI a) x32 key kc ks f (-99) (nI b) (nI n) 16 32 ph (nI c) (nI ne) (nI nr) (nI ns) kn K L R M A Z E r0 r1 rc F))
    (fun b bb => hq_b bb True (∀ x, x < b → ¬ (F x = key ∧ ¬ key = -1))) ns 0 false (by omega) (fun q hq => absurd hq (Nat.not_lt_zero q)) ?_ ?_
  · intro f bb hbb
    cases bb with
    | true => exact br_t (nI_le (Nat.le_refl _) (by omega)) (nm_r (nI_1 a) nt)
    | false => exact br_t (nI_le (Nat.le_refl _) (by omega)) (nm_r (nI_1 a) (h0 hbb))
  · intro f b bb hb hbb nx
    cases bb with
    | true => exact br_f (nI_ge hb (by omega)) (br_f (ha_99 (by omega)) (nm_r (nI_1 a) nt))
    | false =>
      have nn : ¬ (F b = key ∧ ¬ key = -1) → ∀ x, x = nI b + 1 → wL_law_1100 post Lx xs J507 J517 J893 q1 q3 q5 q12 q13 q15 q16 (nI g) (nI ns) (nI a) x32 key kc ks f (-99) x (nI n) 16 32 ph (nI c) (nI ne) (nI nr) (nI ns) kn K L R M A Z E r0 r1 rc F := fun z => nm_r (nI_1 b) (nx false (lt_s hbb z))
      refine br_f (nI_ge hb (by omega)) (br_t rfl ?_)
      rcases hk with e | ⟨y, hy, e⟩
      · exact br_t (by rw [e]; decide) (nn (fun z => z.2 e))
      · refine br_f (by rw [e]; exact nI_pos (by omega)) (lf_1 hb (by omega) ?_)
        by_cases ek : F b = key
        · refine br_t ek ?_
          by_cases k3 : x32 = 3
          · exact br_t k3 (hs3 k3 b hb ek _ (nm_r (nI_1 b) (nx true trivial)))
          · exact br_f k3 (hs4 k3 b hb ek _ (nm_r (nI_1 b) (nx true trivial)))
        · exact br_f ek (nn (fun z => ek z.1))
def hp_mc (K L R A F : Nat → Int32) (ns g a : Nat) : Prop := ∃ f, f < 256 ∧ F a = nI f ∧
  ((K (f / 16) = 2 ∧ (A (hp_l L f) = nI g ∨ A (hp_l R f) = nI g)) ∨
   (K (f / 16) = 3 ∧ A (hp_l L f) = nI g ∧ ∃ b, b < ns ∧ F b = A (hp_l R f)) ∨
   (K (f / 16) = 4 ∧ A (hp_l L f) = nI g ∧ K (hp_i A (hp_l R f) / 16) = 5 ∧ ∃ b, b < ns ∧ F b = A (hp_l L (hp_i A (hp_l R f)))))
theorem ls_C (J : hx_J n c ne nr ns ph kn K L R M A Z E r0 r1 rc F) (p1 : ph = 1) (hns : ns < 32) (hg : g < 256) (hA : A g = nI g) (J1 : hx_J n c ne nr (ns + 1) ph kn K L R M A Z E r0 r1 rc (upd F ns (nI g))) (h1 : J517 (nI (g + 1)) (nI n) 16 32 ph (nI c) (nI ne) (nI nr) (nI (ns + 1)) kn K L R M A Z E r0 r1 rc (upd F ns (nI g))) (hF : ∀ j, j < ns → ∃ g, g < 256 ∧ F j = nI g ∧ A g = nI g ∧ ¬ Z g = -1)
    (h0 : (∀ a, a < ns → ¬ hp_mc K L R A F ns g a) → ∃ f, wL_law_1169 post Lx xs J507 J517 q1 q3 q5 q12 q13 q15 q16 (nI g) (nI ns) kc ks f (-99) 0 (nI n) 16 32 ph (nI c) (nI ne) (nI nr) (nI ns) kn K L R M A Z E r0 r1 rc F) : ∃ f, wL_law_893 post Lx xs J507 J517 q1 q3 q5 q12 q13 q15 q16 (nI g) (nI ns) kc ks f (-99) 0 (nI n) 16 32 ph (nI c) (nI ne) (nI nr) (nI ns) kn K L R M A Z E r0 r1 rc F := by
  obtain ⟨b1, b2, b3, b4, b5, b6, b7⟩ := hj_b J
  have W := J.1.1
  have C := J.2.1.1
  refine pk_loop (σ := Bool) (fun f a b => hq_b b (wL_law_893 post Lx xs J507 J517 q1 q3 q5 q12 q13 q15 q16 (nI g) (nI ns) kc ks f (nI ns) (nI a) (nI n) 16 32 ph (nI c) (nI ne) (nI nr) (nI (ns + 1)) kn K L R M A Z E r0 r1 rc (upd F ns (nI g))) (wL_law_893 post Lx xs J507 J517 q1 q3 q5 q12 q13 q15 q16 (nI g) (nI ns) kc ks f (-99) (nI a) (nI n) 16 32 ph (nI c) (nI ne) (nI nr) (nI ns) kn K L R M A Z E r0 r1 rc F))
    (fun a b => hq_b b True (∀ a', a' < a → ¬ hp_mc K L R A F ns g a')) ns 0 false (by omega) (fun q hq => absurd hq (Nat.not_lt_zero q)) ?_ ?_
  · intro f b hb
    cases b with
    | true => exact ld_893 (Nat.lt_succ_self ns) (by omega) pk_us h1 f _
    | false => exact br_t (nI_le (Nat.le_refl _) (by omega)) (h0 hb)
  · intro fu a b ha hb nx
    cases b with
    | true => exact ld_893 (Nat.lt_succ_self ns) (by omega) pk_us h1 fu _
    | false =>
      have nt := nx true trivial
      obtain ⟨f, hf, ef, af, zf⟩ := hF a ha
      have hv := hc_g C hf af
      have uq : ∀ f', f' < 256 → F a = nI f' → f' = f := fun f' h e => ha_eq (e.symm.trans ef) (by omega) (by omega)
      have nn : ¬ hp_mc K L R A F ns g a → wL_law_893 post Lx xs J507 J517 q1 q3 q5 q12 q13 q15 q16 (nI g) (nI ns) kc ks fu (-99) (nI (a + 1)) (nI n) 16 32 ph (nI c) (nI ne) (nI nr) (nI ns) kn K L R M A Z E r0 r1 rc F := fun z => nx false (lt_s hb z)
      have nn' : ¬ hp_mc K L R A F ns g a → ∀ x, x = nI a + 1 → wL_law_893 post Lx xs J507 J517 q1 q3 q5 q12 q13 q15 q16 (nI g) (nI ns) kc ks fu (-99) x (nI n) 16 32 ph (nI c) (nI ne) (nI nr) (nI ns) kn K L R M A Z E r0 r1 rc F := fun z => nm_r (nI_1 a) (nn z)
      refine br_f (nI_ge ha (by omega)) (br_t rfl (lf_1 ha b6 ?_))
      rw [ef]
      refine nm_r (ha_s4 (by omega)) (nm_r (ha_a3 (by omega)) (nm_r (ha_s24 (by omega)) (lk_1 hv.1 b3 ?_)))
      by_cases k0 : K (f / 16) = 0
      · refine br_t (by rw [k0]; decide) (nn' ?_)
        rintro ⟨f', f1, f2, z⟩
        rw [uq f' f1 f2, k0] at z
        rcases z with ⟨z, _⟩ | ⟨z, _⟩ | ⟨z, _⟩ <;> exact absurd z (by decide)
      · have na : ¬ hp_a K f := fun z => z.elim k0 (hc_nv W C hf af)
        obtain ⟨_, ⟨l, hl, el⟩, hR⟩ := hw_na na W hv.1
        have ell : hp_l L f = l * 16 + f % 16 := by
          unfold hp_l
          rw [el, nI_clamp (by omega)]
        rcases hR with ⟨k5, _⟩ | ⟨k234, r, hr, er⟩
        · refine br_f (by rw [k5]; decide) (br_f (by rw [k5]; decide) (nn' ?_))
          rintro ⟨f', f1, f2, z⟩
          rw [uq f' f1 f2, k5] at z
          rcases z with ⟨z, _⟩ | ⟨z, _⟩ | ⟨z, _⟩ <;> exact absurd z (by decide)
        · have n5 : ¬ K (f / 16) = 5 := by rcases k234 with e | e | e <;> rw [e] <;> decide
          have err : hp_l R f = r * 16 + f % 16 := by
            unfold hp_l
            rw [er, nI_clamp (by omega)]
          have n2 : ¬ K (f / 16) < 2 := by rcases k234 with e | e | e <;> rw [e] <;> decide
          have n4 : K (f / 16) ≤ 4 := by rcases k234 with e | e | e <;> rw [e] <;> decide
          refine br_f n2 (br_t n4 (lh_0 hv.1 b3 ?_))
          rw [el]
          refine lg_l J (by omega) hv.2 (lh_1 hv.1 b3 ?_)
          rw [er]
          refine lg_l J (by omega) hv.2 ?_
          rw [← ell, ← err]
          by_cases k2 : K (f / 16) = 2
          · have s5 : A (hp_l L f) = nI g → wL_law_1016 post Lx xs J507 J517 (wL_law_893 post Lx xs J507 J517 q1 q3 q5 q12 q13 q15 q16 (nI g) (nI ns) kc ks fu) q1 q3 q5 q12 q13 q15 q16 (nI g) (nI ns) (nI a) (A (hp_l L f)) kc ks (nI n) 16 32 ph (nI c) (nI ne) (nI nr) (nI ns) kn K L R M A Z E r0 r1 rc F := fun e => by
              refine br_t e ?_
              unfold wL_law_1030
              refine st_5 J p1 hns ha hf ef af (fun z => absurd k2 z) (fun _ => ?_)
              rw [e]
              exact nm_r (nI_1 a) nt
            refine br_t k2 ?_
            by_cases e1 : A (hp_l L f) = nI g
            · exact br_t e1 (s5 e1)
            · refine br_f e1 ?_
              by_cases e2 : A (hp_l R f) = nI g
              · refine br_t e2 (br_f e1 ?_)
                unfold wL_law_1030
                refine st_6 J p1 hns ha hf ef af (fun z => absurd k2 z) (fun _ => ?_)
                rw [e2]
                exact nm_r (nI_1 a) nt
              · refine br_f e2 (br_t k2 (nn' ?_))
                rintro ⟨f', f1, f2, z⟩
                rw [uq f' f1 f2] at z
                rcases z with ⟨_, z | z⟩ | ⟨z, _⟩ | ⟨z, _⟩
                · exact e1 z
                · exact e2 z
                · rw [k2] at z; exact absurd z (by decide)
                · rw [k2] at z; exact absurd z (by decide)
          · refine br_f k2 (br_f k2 ?_)
            by_cases e1 : A (hp_l L f) = nI g
            · refine br_t e1 ?_
              by_cases k3 : K (f / 16) = 3
              · obtain ⟨l', b, l1', l2', l3', y1, y2, y3, y4⟩ := hc_r W C hv na n5
                refine br_t k3 (ls_1100 hns (Or.inr ⟨b, y1, y2⟩) (fun _ b' hb' eb P hP => ?_) (fun z => absurd k3 z) nt (fun z => nn ?_))
                · refine st_7 J p1 hns ha hb' hf ef af (fun z => absurd ⟨k3, eb.symm⟩ z) (fun _ _ => ?_)
                  rw [e1]
                  exact hP
                · rintro ⟨f', f1, f2, y⟩
                  rw [uq f' f1 f2] at y
                  rcases y with ⟨y, _⟩ | ⟨_, _, b', hb', y⟩ | ⟨y, _⟩
                  · exact k2 y
                  · exact z b' hb' ⟨y, by rw [y2]; exact ha_ne1 (by omega)⟩
                  · rw [k3] at y; exact absurd y (by decide)
              · have k4 : K (f / 16) = 4 := by
                  rcases k234 with e | e | e
                  · exact absurd e k2
                  · exact absurd e k3
                  · exact e
                obtain ⟨l', w, l1', l2', l3', w1, w2, w3, w4⟩ := hc_r W C hv na n5
                have hp1 : hp_l R f / 16 = r := by omega
                have hp2 : hp_l R f % 16 = f % 16 := by omega
                obtain ⟨q, q1', q2', q3', q4', q5', q6'⟩ := hc_1 C (show hp_l R f < 256 by omega) (by omega) (by rw [hp2]; exact hv.2)
                have eqw : q = w := ha_eq (q2'.symm.trans w2) (by omega) (by omega)
                subst eqw
                refine br_f k3 (lk_1 (by omega) b3 ?_)
                by_cases k5 : K r = 5
                · have nap : ¬ hp_a K (hp_l R f) := by
                    unfold hp_a
                    rw [hp1, k5]
                    decide
                  rcases q5' with ⟨z, _⟩ | ⟨_, z1, z2, _⟩
                  · exact absurd z nap
                  · obtain ⟨l2, g1, g2, g3⟩ := hw_lp W (p := hp_l R f) (by omega) nap
                    rw [hp1] at g1 g2
                    rw [hp1, k5] at z1
                    refine br_t k5 (lh_0 (by omega) b3 ?_)
                    rw [g2]
                    refine lg_l J (by omega) hv.2 ?_
                    have ek : A (l2 * 16 + f % 16) = A (hp_l L q) := by rw [← z2, g3, hp2]
                    rw [ek]
                    obtain ⟨l3, y, _, _, _, y1, y2, y3, y4⟩ := hc_l W C (hc_g C w1 w3) (hn_5 z1.symm)
                    refine ls_1100 hns (Or.inr ⟨y, y1, y2⟩) (fun z => absurd z k3) (fun _ b' hb' eb P hP => ?_) nt (fun z => nn ?_)
                    · obtain ⟨g', hg', eg', _, _⟩ := hF b' hb'
                      refine st_8 J p1 hns ha hb' hf ef af hg' eg' (fun z => absurd ⟨k4, by rw [w4]; exact z1.symm, by rw [w4]; exact eb.symm⟩ z) (fun _ _ _ => ?_)
                      rw [e1]
                      exact hP
                    · rintro ⟨f', f1, f2, o⟩
                      rw [uq f' f1 f2] at o
                      rcases o with ⟨o, _⟩ | ⟨o, _⟩ | ⟨_, _, _, b', hb', o⟩
                      · exact k2 o
                      · exact k3 o
                      · rw [w4] at o
                        exact z b' hb' ⟨o, by rw [y2]; exact ha_ne1 (by omega)⟩
                · refine br_f k5 (ls_1100 hns (Or.inl rfl) (fun z => absurd z k3) (fun _ b' hb' eb P hP => ?_) nt (fun z => nn ?_))
                  · obtain ⟨g', hg', eg', _, _⟩ := hF b' hb'
                    rw [eg'] at eb
                    exact absurd eb (ha_ne1 (by omega))
                  · rintro ⟨f', f1, f2, o⟩
                    rw [uq f' f1 f2] at o
                    rcases o with ⟨o, _⟩ | ⟨o, _⟩ | ⟨_, _, o, _⟩
                    · exact k2 o
                    · exact k3 o
                    · rw [w4] at o
                      rcases q5' with ⟨_, z, _⟩ | ⟨_, z, _⟩
                      · exact hn_5 o z
                      · rw [hp1, o] at z
                        exact k5 z
            · refine br_f e1 (nn' ?_)
              rintro ⟨f', f1, f2, z⟩
              rw [uq f' f1 f2] at z
              rcases z with ⟨z, _⟩ | ⟨_, z, _⟩ | ⟨_, z, _⟩
              · exact k2 z
              · exact e1 z
              · exact e1 z
end HSC
end
section
/-! the law's search: by a rule -/
section HSD
variable {n c ne nr ns : Nat} {ph kn : Int32} {K L R M A Z E r0 r1 rc F : Nat → Int32} {post : Int32 → Prop} {Lx : Nat} {xs : Nat → Int32} {J507 J517 : hq_T10} {q1 q3 q5 q12 q13 q15 q16 : Int32} {kc ks g : Nat}
def hp_md (n ns : Nat) (A F r0 r1 rc : Nat → Int32) (g r z b d : Nat) : Prop := hp_V n z ∧ A ((rc r).toNatClampNeg * 16 + z) = nI g ∧
  (r0 r = -1 ∨ (b < ns ∧ F b = A ((r0 r).toNatClampNeg * 16 + z))) ∧ (r1 r = -1 ∨ (d < ns ∧ F d = A ((r1 r).toNatClampNeg * 16 + z)))
theorem ls_9 (J : hx_J n c ne nr ns ph kn K L R M A Z E r0 r1 rc F) (p1 : ph = 1) (hns : ns < 32) {r z b d : Nat} (hr : r < nr) (hz : z < 16) (m : hp_md n ns A F r0 r1 rc g r z b d) (hb : b < 1000) (hd : d < 1000) (hg : g < 256) {P : Int32 → St2 → Prop} (hP : P (nI ns) (nI n, 16, 32, ph, nI c, nI ne, nI nr, nI (ns + 1), kn, K, L, R, M, A, Z, E, r0, r1, rc, upd F ns (nI g))) : wpX_step P (nI n, 16, 32, ph, nI c, nI ne, nI nr, nI ns, kn, K, L, R, M, A, Z, E, r0, r1, rc, F) 9 (nI r) (nI b) (nI d) := by
  obtain ⟨b1, b2, b3, b4, b5, b6, b7⟩ := hj_b J
  have W := J.1.1
  have C := J.2.1.1
  obtain ⟨o1, o2, hc, hcc, ec⟩ := J.2.2.1.2.1 r hr
  have cb : (nI b).toNatClampNeg = b := nI_clamp (by omega)
  have cd : (nI d).toNatClampNeg = d := nI_clamp (by omega)
  have ecc : (rc r).toNatClampNeg = hc := by rw [ec, nI_clamp (by omega)]
  have ne : ¬ nI g = -1 := ha_ne1 (by omega)
  have m1 : hp_b A (r0 r) z (F b) := m.2.2.1.imp id (fun y => y.2.symm)
  have m2 : hp_b A (r1 r) z (F d) := m.2.2.2.imp id (fun y => y.2.symm)
  obtain ⟨q, hq⟩ := hz_ex n A (r0 r) (r1 r) (rc r) (F b) (F d)
  have e : q = nI g := by
    rcases hq with ⟨s, s1, s2, ⟨s3, s4⟩, _, s5⟩ | ⟨_, y⟩
    · have v := J.2.2.1.2.2 r hr
      rw [ecc] at v
      have := hv_rule W C J.2.1.2.2.1 o1 o2 hcc v s1 hz s2 m.1 s3 s4 m1 m2
      rw [s5, ecc, this, ← ecc]
      exact m.2.1
    · exact absurd ⟨m1, m2⟩ (y z hz m.1)
  subst e
  have hq' : hp_z n A (r0 r) (r1 r) (rc r) (F (nI b).toNatClampNeg) (F (nI d).toNatClampNeg) (nI g) := by
    rw [cb, cd]
    exact hq
  refine st_9 J p1 hns hr (fun e _ z => ?_) hq' (fun z => absurd z ne) (fun _ _ _ => hP)
  have bad : ∀ x, x < ns → ¬ (nI x < 0 ∨ nI ns ≤ nI x) := fun x hx y => y.elim (nI_pos (by omega)) (nI_ge hx (by omega))
  rcases z with ⟨y1, y2⟩ | ⟨y1, y2⟩
  · exact absurd y2 (bad b (m.2.2.1.resolve_left y1).1)
  · exact absurd y2 (bad d (m.2.2.2.resolve_left y1).1)
theorem ls_1326 (J : hx_J n c ne nr ns ph kn K L R M A Z E r0 r1 rc F) (p1 : ph = 1) (hns : ns < 32) (hg : g < 256) {J1169 J1189 : hq_T11} {r z lim : Nat} {x33 x34 : Int32} (hr : r < nr) (hz : z < 16) (hV : hp_V n z) (hc : A ((rc r).toNatClampNeg * 16 + z) = nI g)
    (h33 : ¬ r0 r = -1 → x33 = A ((r0 r).toNatClampNeg * 16 + z)) (h34 : ¬ r1 r = -1 → x34 = A ((r1 r).toNatClampNeg * 16 + z)) (hl : lim = if ns = 0 then 1 else ns)
    (nt : J1189 (nI ns) (nI (z + 1)) (nI n) 16 32 ph (nI c) (nI ne) (nI nr) (nI (ns + 1)) kn K L R M A Z E r0 r1 rc (upd F ns (nI g))) (nf : (∀ b d, b < lim → d < lim → ¬ hp_md n ns A F r0 r1 rc g r z b d) → J1189 (-99) (nI (z + 1)) (nI n) 16 32 ph (nI c) (nI ne) (nI nr) (nI ns) kn K L R M A Z E r0 r1 rc F) :
    ∃ f, wL_law_1326 post Lx xs J507 J517 J1169 J1189 q1 q3 q5 q12 q13 q15 q16 (nI g) (nI ns) (nI r) (nI z) (r0 r) (r1 r) x33 x34 (nI lim) kc ks f (-99) 0 (nI n) 16 32 ph (nI c) (nI ne) (nI nr) (nI ns) kn K L R M A Z E r0 r1 rc F := by
  obtain ⟨b1, b2, b3, b4, b5, b6, b7⟩ := hj_b J
  have W := J.1.1
  have C := J.2.1.1
  have w := W.2.2.1
  obtain ⟨o1, o2, _⟩ := J.2.2.1.2.1 r hr
  have lb : 1 ≤ lim ∧ lim ≤ 32 ∧ ns ≤ lim := by
    rw [hl]
    split <;> omega
  -- a premise's id is a number
  have pos : ∀ x : Int32, (x = -1 ∨ ∃ h, h < c ∧ x = nI h) → ¬ x = -1 → ∃ y, y < 256 ∧ A (x.toNatClampNeg * 16 + z) = nI y := fun x hx e => by
    obtain ⟨h, hh, rfl⟩ := hx.resolve_left e
    have e2 : (h * 16 + z) % 16 = z := by omega
    obtain ⟨y, y1, y2, _, _⟩ := hc_p W C (t := h * 16 + z) ⟨by omega, by rw [e2]; exact hV⟩
    rw [nI_clamp (by omega)]
    exact ⟨y, y1, y2⟩
  -- a look at a step, present or not
  have look : ∀ (x : Int32) (v : Int32), (x = -1 ∨ ∃ h, h < c ∧ x = nI h) → ¬ x = -1 → v = A (x.toNatClampNeg * 16 + z) → ∀ b, b < lim → ∀ P Q : Prop, (b < ns → F b = A (x.toNatClampNeg * 16 + z) → P) → (¬ (b < ns ∧ F b = A (x.toNatClampNeg * 16 + z)) → Q) → wpX_stepFact (fun y => (y = v → P) ∧ (¬ y = v → Q)) (nI n, 16, 32, ph, nI c, nI ne, nI nr, nI ns, kn, K, L, R, M, A, Z, E, r0, r1, rc, F) (nI b) := fun x v hx e ev b hb P Q hP hQ => by
    by_cases h : b < ns
    · refine lf_1 h b6 ?_
      by_cases e2 : F b = v
      · exact br_t e2 (hP h (e2.trans ev))
      · exact br_f e2 (hQ (fun z => e2 (z.2.trans ev.symm)))
    · refine lf_0 (Or.inr (nI_le (by omega) (by omega))) ?_
      obtain ⟨y, y1, y2⟩ := pos x hx e
      refine br_f ?_ (hQ (fun z => h z.1))
      rw [ev, y2]
      intro e3
      have := nI_pos (n := y) (by omega)
      rw [← e3] at this
      exact this (by decide)
  refine pk_loop (σ := Bool) (fun f b bb => hq_b bb (wL_law_1326 post Lx xs J507 J517 J1169 J1189 q1 q3 q5 q12 q13 q15 q16 (nI g) (nI ns) (nI r) (nI z) (r0 r) (r1 r) x33 x34 (nI lim) kc ks f (nI ns) (nI b) (nI n) 16 32 ph (nI c) (nI ne) (nI nr) (nI (ns + 1)) kn K L R M A Z E r0 r1 rc (upd F ns (nI g))) (wL_law_1326 post Lx xs J507 J517 J1169 J1189 q1 q3 q5 q12 q13 q15 q16 (nI g) (nI ns) (nI r) (nI z) (r0 r) (r1 r) x33 x34 (nI lim) kc ks f (-99) (nI b) (nI n) 16 32 ph (nI c) (nI ne) (nI nr) (nI ns) kn K L R M A Z E r0 r1 rc F))
    (fun b bb => hq_b bb True (∀ x, x < b → ∀ d, d < lim → ¬ hp_md n ns A F r0 r1 rc g r z x d)) lim 0 false (by omega) (fun q hq => absurd hq (Nat.not_lt_zero q)) ?_ ?_
  · intro f bb hbb
    cases bb with
    | true => exact br_t (nI_le (Nat.le_refl _) (by omega)) (nm_r (nI_1 z) nt)
    | false => exact br_t (nI_le (Nat.le_refl _) (by omega)) (nm_r (nI_1 z) (nf (fun b d hb hd => hbb b hb d hd)))
  · intro f b bb hb hbb nx
    cases bb with
    | true => exact br_f (nI_ge hb (by omega)) (br_f (ha_99 (by omega)) (nm_r (nI_1 z) nt))
    | false =>
      have mt := nx true trivial
      refine br_f (nI_ge hb (by omega)) (br_t rfl ?_)
      refine pk_loop (σ := Bool) (fun f' d bb => hq_b bb (wL_law_1343 post Lx xs J507 J517 J1169 J1189 (wL_law_1326 post Lx xs J507 J517 J1169 J1189 q1 q3 q5 q12 q13 q15 q16 (nI g) (nI ns) (nI r) (nI z) (r0 r) (r1 r) x33 x34 (nI lim) kc ks f) q1 q3 q5 q12 q13 q15 q16 (nI g) (nI ns) (nI r) (nI z) (r0 r) (r1 r) x33 x34 (nI lim) (nI b) kc ks f' (nI ns) (nI d) (nI n) 16 32 ph (nI c) (nI ne) (nI nr) (nI (ns + 1)) kn K L R M A Z E r0 r1 rc (upd F ns (nI g))) (wL_law_1343 post Lx xs J507 J517 J1169 J1189 (wL_law_1326 post Lx xs J507 J517 J1169 J1189 q1 q3 q5 q12 q13 q15 q16 (nI g) (nI ns) (nI r) (nI z) (r0 r) (r1 r) x33 x34 (nI lim) kc ks f) q1 q3 q5 q12 q13 q15 q16 (nI g) (nI ns) (nI r) (nI z) (r0 r) (r1 r) x33 x34 (nI lim) (nI b) kc ks f' (-99) (nI d) (nI n) 16 32 ph (nI c) (nI ne) (nI nr) (nI ns) kn K L R M A Z E r0 r1 rc F))
        (fun d bb => hq_b bb True (∀ x, x < d → ¬ hp_md n ns A F r0 r1 rc g r z b x)) lim 0 false (by omega) (fun q hq => absurd hq (Nat.not_lt_zero q)) ?_ ?_
      · intro f' bb hb2
        cases bb with
        | true => exact br_t (nI_le (Nat.le_refl _) (by omega)) (nm_r (nI_1 b) mt)
        | false => exact br_t (nI_le (Nat.le_refl _) (by omega)) (nm_r (nI_1 b) (nx false (lt_s hbb hb2)))
      · intro f' d bb hd hb2 ny
        cases bb with
        | true => exact br_f (nI_ge hd (by omega)) (br_f (ha_99 (by omega)) (nm_r (nI_1 b) mt))
        | false =>
          have nn : ¬ hp_md n ns A F r0 r1 rc g r z b d → ∀ x, x = nI d + 1 → wL_law_1343 post Lx xs J507 J517 J1169 J1189 (wL_law_1326 post Lx xs J507 J517 J1169 J1189 q1 q3 q5 q12 q13 q15 q16 (nI g) (nI ns) (nI r) (nI z) (r0 r) (r1 r) x33 x34 (nI lim) kc ks f) q1 q3 q5 q12 q13 q15 q16 (nI g) (nI ns) (nI r) (nI z) (r0 r) (r1 r) x33 x34 (nI lim) (nI b) kc ks f' (-99) x (nI n) 16 32 ph (nI c) (nI ne) (nI nr) (nI ns) kn K L R M A Z E r0 r1 rc F := fun q => nm_r (nI_1 d) (ny false (lt_s hb2 q))
          have go : hp_md n ns A F r0 r1 rc g r z b d → wL_law_1389 post Lx xs J507 J517 J1169 J1189 (wL_law_1326 post Lx xs J507 J517 J1169 J1189 q1 q3 q5 q12 q13 q15 q16 (nI g) (nI ns) (nI r) (nI z) (r0 r) (r1 r) x33 x34 (nI lim) kc ks f) (wL_law_1343 post Lx xs J507 J517 J1169 J1189 (wL_law_1326 post Lx xs J507 J517 J1169 J1189 q1 q3 q5 q12 q13 q15 q16 (nI g) (nI ns) (nI r) (nI z) (r0 r) (r1 r) x33 x34 (nI lim) kc ks f) q1 q3 q5 q12 q13 q15 q16 (nI g) (nI ns) (nI r) (nI z) (r0 r) (r1 r) x33 x34 (nI lim) (nI b) kc ks f') q1 q3 q5 q12 q13 q15 q16 (nI g) (nI ns) (nI r) (nI z) (r0 r) (r1 r) x33 x34 (nI lim) (nI b) (nI d) kc ks (nI n) 16 32 ph (nI c) (nI ne) (nI nr) (nI ns) kn K L R M A Z E r0 r1 rc F := fun m => by
            unfold wL_law_1389
            exact ls_9 J p1 hns hr hz m (by omega) (by omega) hg (nm_r (nI_1 d) (ny true trivial))
          have neg : ∀ x : Int32, (x = -1 ∨ ∃ h, h < c ∧ x = nI h) → ¬ x = -1 → ¬ x < 0 := fun x hx e => by
            obtain ⟨h, hh, rfl⟩ := hx.resolve_left e
            exact nI_pos (by omega)
          have h73 : (r0 r = -1 ∨ (b < ns ∧ F b = A ((r0 r).toNatClampNeg * 16 + z))) → wL_law_1373 post Lx xs J507 J517 J1169 J1189 (wL_law_1326 post Lx xs J507 J517 J1169 J1189 q1 q3 q5 q12 q13 q15 q16 (nI g) (nI ns) (nI r) (nI z) (r0 r) (r1 r) x33 x34 (nI lim) kc ks f) (wL_law_1343 post Lx xs J507 J517 J1169 J1189 (wL_law_1326 post Lx xs J507 J517 J1169 J1189 q1 q3 q5 q12 q13 q15 q16 (nI g) (nI ns) (nI r) (nI z) (r0 r) (r1 r) x33 x34 (nI lim) kc ks f) q1 q3 q5 q12 q13 q15 q16 (nI g) (nI ns) (nI r) (nI z) (r0 r) (r1 r) x33 x34 (nI lim) (nI b) kc ks f') q1 q3 q5 q12 q13 q15 q16 (nI g) (nI ns) (-99) (nI r) (nI z) (r0 r) (r1 r) x33 x34 (nI lim) (nI b) (nI d) kc ks (nI n) 16 32 ph (nI c) (nI ne) (nI nr) (nI ns) kn K L R M A Z E r0 r1 rc F := fun m1 => by
            by_cases e : r1 r = -1
            · exact br_t (by rw [e]; decide) (go ⟨hV, hc, m1, Or.inl e⟩)
            · exact br_f (neg _ o2 e) (look (r1 r) x34 o2 e (h34 e) d hd _ _ (fun a1 a2 => go ⟨hV, hc, m1, Or.inr ⟨a1, a2⟩⟩) (fun a => nn (fun m => a (m.2.2.2.resolve_left e))))
          refine br_f (nI_ge hd (by omega)) (br_t rfl ?_)
          by_cases e : r0 r = -1
          · exact br_t (by rw [e]; decide) (h73 (Or.inl e))
          · exact br_f (neg _ o1 e) (look (r0 r) x33 o1 e (h33 e) b hb _ _ (fun a1 a2 => h73 (Or.inr ⟨a1, a2⟩)) (fun a => nn (fun m => a (m.2.2.1.resolve_left e))))
theorem ls_D (J : hx_J n c ne nr ns ph kn K L R M A Z E r0 r1 rc F) (p1 : ph = 1) (hns : ns < 32) (hg : g < 256) (hA : A g = nI g) (J1 : hx_J n c ne nr (ns + 1) ph kn K L R M A Z E r0 r1 rc (upd F ns (nI g))) (h1 : J517 (nI (g + 1)) (nI n) 16 32 ph (nI c) (nI ne) (nI nr) (nI (ns + 1)) kn K L R M A Z E r0 r1 rc (upd F ns (nI g))) (e1 : q1 = nI n)
    (h0 : (∀ r z b d, r < nr → z < 16 → b < (if ns = 0 then 1 else ns) → d < (if ns = 0 then 1 else ns) → ¬ hp_md n ns A F r0 r1 rc g r z b d) → False) : ∃ f, wL_law_1169 post Lx xs J507 J517 q1 q3 q5 q12 q13 q15 q16 (nI g) (nI ns) kc ks f (-99) 0 (nI n) 16 32 ph (nI c) (nI ne) (nI nr) (nI ns) kn K L R M A Z E r0 r1 rc F := by
  obtain ⟨b1, b2, b3, b4, b5, b6, b7⟩ := hj_b J
  have W := J.1.1
  have C := J.2.1.1
  have w := W.2.2.1
  subst e1
  refine pk_loop (σ := Bool) (fun f r b => hq_b b (wL_law_1169 post Lx xs J507 J517 (nI n) q3 q5 q12 q13 q15 q16 (nI g) (nI ns) kc ks f (nI ns) (nI r) (nI n) 16 32 ph (nI c) (nI ne) (nI nr) (nI (ns + 1)) kn K L R M A Z E r0 r1 rc (upd F ns (nI g))) (wL_law_1169 post Lx xs J507 J517 (nI n) q3 q5 q12 q13 q15 q16 (nI g) (nI ns) kc ks f (-99) (nI r) (nI n) 16 32 ph (nI c) (nI ne) (nI nr) (nI ns) kn K L R M A Z E r0 r1 rc F))
    (fun r b => hq_b b True (∀ x, x < r → ∀ z, z < 16 → ∀ b d, b < (if ns = 0 then 1 else ns) → d < (if ns = 0 then 1 else ns) → ¬ hp_md n ns A F r0 r1 rc g x z b d)) nr 0 false (by omega) (fun q hq => absurd hq (Nat.not_lt_zero q)) ?_ ?_
  · intro f b hb
    cases b with
    | true => exact ld_1169 (Nat.lt_succ_self ns) (by omega) pk_us h1 f _
    | false => exact (h0 (fun r z b d hr hz hb' hd => hb r hr z hz b d hb' hd)).elim
  · intro f r b hr hb nx
    cases b with
    | true => exact ld_1169 (Nat.lt_succ_self ns) (by omega) pk_us h1 f _
    | false =>
      have nt := nx true trivial
      obtain ⟨o1, o2, hc, hcc, ec⟩ := J.2.2.1.2.1 r hr
      have ecc : (rc r).toNatClampNeg = hc := by rw [ec, nI_clamp (by omega)]
      show wL_law_1169 post Lx xs J507 J517 (nI n) q3 q5 q12 q13 q15 q16 (nI g) (nI ns) kc ks (f + 1) (-99) (nI r) (nI n) 16 32 ph (nI c) (nI ne) (nI nr) (nI ns) kn K L R M A Z E r0 r1 rc F
      unfold wL_law_1169
      refine lc_2 (br_f (nI_ge hr (by omega)) (br_t rfl ?_))
      refine pk_loop (σ := Bool) (fun f' z b => hq_b b (wL_law_1189 post Lx xs J507 J517 (wL_law_1169 post Lx xs J507 J517 (nI n) q3 q5 q12 q13 q15 q16 (nI g) (nI ns) kc ks f) (nI n) q3 q5 q12 q13 q15 q16 (nI g) (nI ns) (nI r) kc ks f' (nI ns) (nI z) (nI n) 16 32 ph (nI c) (nI ne) (nI nr) (nI (ns + 1)) kn K L R M A Z E r0 r1 rc (upd F ns (nI g))) (wL_law_1189 post Lx xs J507 J517 (wL_law_1169 post Lx xs J507 J517 (nI n) q3 q5 q12 q13 q15 q16 (nI g) (nI ns) kc ks f) (nI n) q3 q5 q12 q13 q15 q16 (nI g) (nI ns) (nI r) kc ks f' (-99) (nI z) (nI n) 16 32 ph (nI c) (nI ne) (nI nr) (nI ns) kn K L R M A Z E r0 r1 rc F))
        (fun z b => hq_b b True (∀ x, x < z → ∀ b d, b < (if ns = 0 then 1 else ns) → d < (if ns = 0 then 1 else ns) → ¬ hp_md n ns A F r0 r1 rc g r x b d)) 16 0 false (by omega) (fun q hq => absurd hq (Nat.not_lt_zero q)) ?_ ?_
      · intro f' b hb2
        cases b with
        | true => exact br_t (nI_le (a := 16) (b := 16) (by omega) (by decide)) (nm_r (nI_1 r) nt)
        | false => exact br_t (nI_le (a := 16) (b := 16) (by omega) (by decide)) (nm_r (nI_1 r) (nx false (lt_s hb hb2)))
      · intro f' z b hz hb2 ny
        cases b with
        | true => exact br_f (nI_ge (b := 16) hz (by decide)) (br_f (ha_99 (by omega)) (nm_r (nI_1 r) nt))
        | false =>
          have nn : (∀ b d, b < (if ns = 0 then 1 else ns) → d < (if ns = 0 then 1 else ns) → ¬ hp_md n ns A F r0 r1 rc g r z b d) → ∀ x, x = nI z + 1 → wL_law_1189 post Lx xs J507 J517 (wL_law_1169 post Lx xs J507 J517 (nI n) q3 q5 q12 q13 q15 q16 (nI g) (nI ns) kc ks f) (nI n) q3 q5 q12 q13 q15 q16 (nI g) (nI ns) (nI r) kc ks f' (-99) x (nI n) 16 32 ph (nI c) (nI ne) (nI nr) (nI ns) kn K L R M A Z E r0 r1 rc F := fun q => nm_r (nI_1 z) (ny false (lt_s hb2 q))
          refine br_f (nI_ge (b := 16) hz (by decide)) (br_t rfl (nm_r (ha_a3 (by omega)) (nm_r (ha_s2 (by omega)) ?_)))
          by_cases v1 : n ≤ z % 4
          · exact br_t (nI_le v1 (by omega)) (nn (fun b d _ _ m => by have := m.1.1; omega))
          · refine br_f (nI_ge (by omega) (by omega)) ?_
            by_cases v2 : n ≤ z / 4
            · exact br_t (nI_le v2 (by omega)) (nn (fun b d _ _ m => by have := m.1.2; omega))
            · have hV : hp_V n z := ⟨by omega, by omega⟩
              have gid : ∀ (h : Nat) (post' : Int32 → Prop), h < c → post' (A (h * 16 + z)) → wpX_groundId post' (nI n, 16, 32, ph, nI c, nI ne, nI nr, nI ns, kn, K, L, R, M, A, Z, E, r0, r1, rc, F) (nI h) (nI (z % 4)) (nI (z / 4)) := fun h post' hh hp => by
                refine xg_id b3 b1 hh (by omega) (by omega) ?_
                rw [show h * 16 + (4 * (z / 4) + z % 4) = h * 16 + z by omega]
                exact hp
              refine br_f (nI_ge (by omega) (by omega)) (lt_r2 hr b5 ?_)
              rw [ec]
              refine gid hc _ hcc ?_
              by_cases e : A (hc * 16 + z) = nI g
              · refine br_t e (lt_r0 hr b5 (lt_r1 hr b5 ?_))
                have fin : ∀ x33 x34, (¬ r0 r = -1 → x33 = A ((r0 r).toNatClampNeg * 16 + z)) → (¬ r1 r = -1 → x34 = A ((r1 r).toNatClampNeg * 16 + z)) → wL_law_1308 post Lx xs J507 J517 (wL_law_1169 post Lx xs J507 J517 (nI n) q3 q5 q12 q13 q15 q16 (nI g) (nI ns) kc ks f) (wL_law_1189 post Lx xs J507 J517 (wL_law_1169 post Lx xs J507 J517 (nI n) q3 q5 q12 q13 q15 q16 (nI g) (nI ns) kc ks f) (nI n) q3 q5 q12 q13 q15 q16 (nI g) (nI ns) (nI r) kc ks f') (nI n) q3 q5 q12 q13 q15 q16 (nI g) (nI ns) (-99) (nI r) (nI z) (r0 r) (r1 r) x33 x34 kc ks (nI n) 16 32 ph (nI c) (nI ne) (nI nr) (nI ns) kn K L R M A Z E r0 r1 rc F := fun x33 x34 h33 h34 => by
                  by_cases n0 : ns = 0
                  · have z0 : nI ns ≤ 0 := by rw [n0]; decide
                    exact br_t z0 (ls_1326 (lim := 1) J p1 hns hg hr hz hV (by rw [ecc]; exact e) h33 h34 (by rw [if_pos n0]) (ny true trivial) (fun q => ny false (lt_s hb2 (by rw [if_pos n0]; exact q))))
                  · exact br_f (nI_nle (by omega) (by omega)) (ls_1326 (lim := ns) J p1 hns hg hr hz hV (by rw [ecc]; exact e) h33 h34 (by rw [if_neg n0]) (ny true trivial) (fun q => ny false (lt_s hb2 (by rw [if_neg n0]; exact q))))
                have f87 : ∀ x33, (¬ r0 r = -1 → x33 = A ((r0 r).toNatClampNeg * 16 + z)) → wL_law_1287 post Lx xs J507 J517 (wL_law_1169 post Lx xs J507 J517 (nI n) q3 q5 q12 q13 q15 q16 (nI g) (nI ns) kc ks f) (wL_law_1189 post Lx xs J507 J517 (wL_law_1169 post Lx xs J507 J517 (nI n) q3 q5 q12 q13 q15 q16 (nI g) (nI ns) kc ks f) (nI n) q3 q5 q12 q13 q15 q16 (nI g) (nI ns) (nI r) kc ks f') (nI n) q3 q5 q12 q13 q15 q16 (nI g) (nI ns) (-99) (nI r) (nI z) (nI (z % 4)) (nI (z / 4)) (r0 r) (r1 r) x33 kc ks (nI n) 16 32 ph (nI c) (nI ne) (nI nr) (nI ns) kn K L R M A Z E r0 r1 rc F := fun x33 h33 => by
                  rcases o2 with e2 | ⟨h, hh, e2⟩
                  · exact br_f (by rw [e2]; decide) (fin x33 (-1) h33 (fun y => absurd e2 y))
                  · refine br_t (by rw [e2]; exact nI_pos' (by omega)) ?_
                    have := gid h (fun x => wL_law_1308 post Lx xs J507 J517 (wL_law_1169 post Lx xs J507 J517 (nI n) q3 q5 q12 q13 q15 q16 (nI g) (nI ns) kc ks f) (wL_law_1189 post Lx xs J507 J517 (wL_law_1169 post Lx xs J507 J517 (nI n) q3 q5 q12 q13 q15 q16 (nI g) (nI ns) kc ks f) (nI n) q3 q5 q12 q13 q15 q16 (nI g) (nI ns) (nI r) kc ks f') (nI n) q3 q5 q12 q13 q15 q16 (nI g) (nI ns) (-99) (nI r) (nI z) (r0 r) (r1 r) x33 x kc ks (nI n) 16 32 ph (nI c) (nI ne) (nI nr) (nI ns) kn K L R M A Z E r0 r1 rc F) hh (fin x33 _ h33 (fun _ => by rw [e2, nI_clamp (by omega)]))
                    rw [← e2] at this
                    exact this
                rcases o1 with e2 | ⟨h, hh, e2⟩
                · exact br_f (by rw [e2]; decide) (f87 (-1) (fun y => absurd e2 y))
                · refine br_t (by rw [e2]; exact nI_pos' (by omega)) ?_
                  have := gid h (fun x => wL_law_1287 post Lx xs J507 J517 (wL_law_1169 post Lx xs J507 J517 (nI n) q3 q5 q12 q13 q15 q16 (nI g) (nI ns) kc ks f) (wL_law_1189 post Lx xs J507 J517 (wL_law_1169 post Lx xs J507 J517 (nI n) q3 q5 q12 q13 q15 q16 (nI g) (nI ns) kc ks f) (nI n) q3 q5 q12 q13 q15 q16 (nI g) (nI ns) (nI r) kc ks f') (nI n) q3 q5 q12 q13 q15 q16 (nI g) (nI ns) (-99) (nI r) (nI z) (nI (z % 4)) (nI (z / 4)) (r0 r) (r1 r) x kc ks (nI n) 16 32 ph (nI c) (nI ne) (nI nr) (nI ns) kn K L R M A Z E r0 r1 rc F) hh (f87 _ (fun _ => by rw [e2, nI_clamp (by omega)]))
                  rw [← e2] at this
                  exact this
              · exact br_f e (nn (fun b d _ _ m => e (by rw [← ecc]; exact m.2.1)))
end HSD
end
section
/-! the law's search finds a step for each id whose lower ranks are there -/
section HSO
variable {n c ne nr ns : Nat} {ph kn : Int32} {K L R M A Z E r0 r1 rc F : Nat → Int32} {post : Int32 → Prop} {Lx : Nat} {xs : Nat → Int32} {J507 J517 : hq_T10} {q1 q3 q5 q12 q13 q15 q16 : Int32} {kc ks g : Nat}
theorem ls_one (J : hx_J n c ne nr ns ph kn K L R M A Z E r0 r1 rc F) (p1 : ph = 1) (hns : ns < 32) (hg : g < 256) (hA : A g = nI g) (J1 : hx_J n c ne nr (ns + 1) ph kn K L R M A Z E r0 r1 rc (upd F ns (nI g))) (h1 : J517 (nI (g + 1)) (nI n) 16 32 ph (nI c) (nI ne) (nI nr) (nI (ns + 1)) kn K L R M A Z E r0 r1 rc (upd F ns (nI g))) (e1 : q1 = nI n) {lev : Nat} (hlev : lev < 300) (hZ : Z g = nI lev) (pres : ∀ x, x < 256 → (∃ i, i < lev ∧ Z x = nI i) → ∃ j, j < ns ∧ F j = nI x) :
    wL_law_669 post Lx xs J507 J517 q1 q3 q5 q12 q13 q15 q16 (nI g) (nI (g / 16)) (nI (g % 4)) (nI (g / 4 % 4)) (nI ns) kc ks (nI n) 16 32 ph (nI c) (nI ne) (nI nr) (nI ns) kn K L R M A Z E r0 r1 rc F := by
  obtain ⟨b1, b2, b3, b4, b5, b6, b7⟩ := hj_b J
  have W := J.1.1
  have C := J.2.1.1
  have gv := hc_g C hg hA
  obtain ⟨_, hY, _, hF⟩ := J.2.2.2.resolve_left (fun z => absurd (p1.symm.trans z.1) (by decide))
  unfold wL_law_669
  refine lk_1 gv.1 b3 (ls_A J p1 hns hg hA J1 h1 (fun noE => ld_735 J hg hA (fun u v hu hv => ls_B J p1 hns hg hA J1 h1 hu hv (fun noB => ls_C J p1 hns hg hA J1 h1 hF (fun noC => ls_D J p1 hns hg hA J1 h1 e1 (fun noD => ?_))))))
  cases lev with
  | zero =>
    obtain ⟨e, he, ee⟩ := hY.2.2.1 g hg hZ
    exact noE e he ee
  | succ i =>
    have pr : ∀ x, x < 256 → hp_H Z i x → ∃ j, j < ns ∧ F j = nI x := fun x hx ⟨j, hj, e⟩ => pres x hx ⟨j, by omega, e⟩
    have ln : ∀ j, j < ns → j < (if ns = 0 then 1 else ns) := fun j hj => by
      rw [if_neg (by omega)]
      exact hj
    rcases (hY.2.2.2.1 i g hg (by omega) hZ).2.2 with ⟨_, na, hl, hr⟩ | ⟨t, t1, t2, t3, t4⟩ | ⟨r, s, hr, hs, hV, hc, m1, m2⟩
    · obtain ⟨l, x, _, _, _, x1, x2, x3, x4⟩ := hc_l W C gv na
      rw [x4] at hl
      obtain ⟨a, ha, ea⟩ := pr x x1 hl
      by_cases k5 : K (g / 16) = 5
      · exact noB a a ha ha ⟨na, ea.trans x2.symm, Or.inl k5⟩
      · obtain ⟨l', y, _, _, _, y1, y2, y3, y4⟩ := hc_r W C gv na k5
        have hr := hr.resolve_left k5
        rw [y4] at hr
        obtain ⟨b, hb, eb⟩ := pr y y1 hr
        exact noB a b ha hb ⟨na, ea.trans x2.symm, Or.inr (eb.trans y2.symm)⟩
    · obtain ⟨a, ha, ea⟩ := pr t t1 t3
      have tv := hc_g C t1 t2
      refine noC a ha ⟨t, t1, ea, ?_⟩
      rcases t4 with z | ⟨k3, z1, z2⟩ | ⟨k4, z1, k5, z2⟩
      · exact Or.inl z
      · obtain ⟨l', y, _, _, _, y1, y2, y3, y4⟩ := hc_r W C tv (hn_3 k3) (by rw [k3]; decide)
        rw [y4] at z2
        obtain ⟨b, hb, eb⟩ := pr y y1 z2
        exact Or.inr (Or.inl ⟨k3, z1, b, hb, eb.trans y2.symm⟩)
      · obtain ⟨l', w, _, _, _, w1, w2, w3, w4⟩ := hc_r W C tv (hn_4 k4) (by rw [k4]; decide)
        rw [w4] at k5 z2
        obtain ⟨l2, y, _, _, _, y1, y2, y3, y4⟩ := hc_l W C (hc_g C w1 w3) (hn_5 k5)
        rw [y4] at z2
        obtain ⟨b, hb, eb⟩ := pr y y1 z2
        exact Or.inr (Or.inr ⟨k4, z1, by rw [w4]; exact k5, b, hb, by rw [w4]; exact eb.trans y2.symm⟩)
    · obtain ⟨o1, o2, _⟩ := J.2.2.1.2.1 r hr
      have pm : ∀ x : Int32, (x = -1 ∨ ∃ h, h < c ∧ x = nI h) → hp_m A Z i x s → ∃ b, b < (if ns = 0 then 1 else ns) ∧ (x = -1 ∨ (b < ns ∧ F b = A (x.toNatClampNeg * 16 + s))) := fun x hx m => by
        rcases m with e | m
        · exact ⟨0, by split <;> omega, Or.inl e⟩
        · by_cases e : x = -1
          · exact ⟨0, by split <;> omega, Or.inl e⟩
          · obtain ⟨h, hh, rfl⟩ := hx.resolve_left e
            have e2 : (h * 16 + s) % 16 = s := by omega
            obtain ⟨y, y1, y2, _, y4⟩ := hc_p W C (t := h * 16 + s) ⟨by omega, by rw [e2]; exact hV⟩
            rw [nI_clamp (by omega)] at m ⊢
            rw [y4] at m
            obtain ⟨b, hb, eb⟩ := pr y y1 m
            exact ⟨b, ln b hb, Or.inr ⟨hb, eb.trans y2.symm⟩⟩
      obtain ⟨b, hb, pb⟩ := pm _ o1 m1
      obtain ⟨d, hd, pd⟩ := pm _ o2 m2
      exact noD r s b d hr hs hb hd ⟨hV, hc, pb, pd⟩
theorem ls_627 (J : hx_J n c ne nr ns ph kn K L R M A Z E r0 r1 rc F) (p1 : ph = 1) (hns : ns < 32) (hg : g < 256) (hA : A g = nI g) (J1 : hx_J n c ne nr (ns + 1) ph kn K L R M A Z E r0 r1 rc (upd F ns (nI g))) (h1 : J517 (nI (g + 1)) (nI n) 16 32 ph (nI c) (nI ne) (nI nr) (nI (ns + 1)) kn K L R M A Z E r0 r1 rc (upd F ns (nI g))) (e1 : q1 = nI n) {lev : Nat} (hlev : lev < 300) (hZ : Z g = nI lev) (pres : ∀ x, x < 256 → (∃ i, i < lev ∧ Z x = nI i) → ∃ j, j < ns ∧ F j = nI x) (np : ∀ j, j < ns → ¬ F j = nI g) :
    ∃ f, wL_law_627 post Lx xs J507 J517 q1 q3 q5 q12 q13 q15 q16 (nI g) (nI (g / 16)) (nI (g % 4)) (nI (g / 4 % 4)) (nI ns) kc ks (nI n) 16 32 ph (nI c) (nI ne) (nI nr) (nI ns) kn K L R M A Z E r0 r1 rc F f 0 0 := by
  obtain ⟨b1, b2, b3, b4, b5, b6, b7⟩ := hj_b J
  refine pk_loop (fun f j (_ : Unit) => wL_law_627 post Lx xs J507 J517 q1 q3 q5 q12 q13 q15 q16 (nI g) (nI (g / 16)) (nI (g % 4)) (nI (g / 4 % 4)) (nI ns) kc ks (nI n) 16 32 ph (nI c) (nI ne) (nI nr) (nI ns) kn K L R M A Z E r0 r1 rc F f 0 (nI j)) (fun _ _ => True) ns 0 () (by omega) trivial ?_ ?_
  · intro f s _
    exact br_t (nI_le (Nat.le_refl _) (by omega)) (br_t rfl (ls_one J p1 hns hg hA J1 h1 e1 hlev hZ pres))
  · intro f j s hj _ nx
    exact br_f (nI_ge hj (by omega)) (lf_1 hj b6 (br_f (np j hj) (nm_r (nI_1 j) (nx () trivial))))
end HSO
end
section
/-! the law's end: steps as they come, then each step's fact is looked at -/
section HTL
variable {n c ne nr ns : Nat} {ph kn : Int32} {K L R M A Z E r0 r1 rc F : Nat → Int32} {post : Int32 → Prop} {Lx : Nat} {xs : Nat → Int32} {kc ks : Nat}
theorem hx_S {g : Nat} (J : hx_J n c ne nr ns ph kn K L R M A Z E r0 r1 rc F) (p1 : ph = 1) (hns : ns < 32) (g1 : g < 256) (g2 : A g = nI g) (g3 : ¬ Z g = -1) : hx_J n c ne nr (ns + 1) ph kn K L R M A Z E r0 r1 rc (upd F ns (nI g)) := by
  obtain ⟨b1, b2, b3, b4, b5, b6, b7⟩ := hj_b J
  obtain ⟨q1, q2, q3, q4⟩ := J.2.2.2.resolve_left (fun z => absurd (p1.symm.trans z.1) (by decide))
  refine ⟨⟨J.1.1, b2, b3, b4, b5, by omega⟩, J.2.1, J.2.2.1, Or.inr ⟨q1, q2, q3, fun j hj => ?_⟩⟩
  by_cases e : j = ns
  · subst e
    exact ⟨g, g1, pk_us, g2, g3⟩
  · rw [pk_un e]
    exact q4 j (by omega)
theorem lt_1615 (J : hx_J n c ne nr ns ph kn K L R M A Z E r0 r1 rc F) (p1 : ph = 1) (hp : post 1) : ∃ f, wL_law_1615 post Lx xs kc ks (nI n) 16 32 ph (nI c) (nI ne) (nI nr) (nI ns) kn K L R M A Z E r0 r1 rc F f 0 := by
  obtain ⟨b1, b2, b3, b4, b5, b6, b7⟩ := hj_b J
  have C := J.2.1.1
  obtain ⟨_, hY, _, hF⟩ := J.2.2.2.resolve_left (fun z => absurd (p1.symm.trans z.1) (by decide))
  refine pk_loop (fun f j (_ : Unit) => wL_law_1615 post Lx xs kc ks (nI n) 16 32 ph (nI c) (nI ne) (nI nr) (nI ns) kn K L R M A Z E r0 r1 rc F f (nI j)) (fun _ _ => True) ns 0 () (by omega) trivial ?_ ?_
  · intro f s _
    show wL_law_1615 post Lx xs kc ks (nI n) 16 32 ph (nI c) (nI ne) (nI nr) (nI ns) kn K L R M A Z E r0 r1 rc F (f + 1) (nI ns)
    unfold wL_law_1615
    exact lc_3 (br_t (nI_le (Nat.le_refl _) (by omega)) hp)
  · intro f j s hj _ nx
    obtain ⟨x, x1, x2, x3, x4⟩ := hF j hj
    have hv := hc_g C x1 x3
    have v1 := hv.2.1
    have v2 := hv.2.2
    have ex : x / 16 * 16 + (4 * (x / 4 % 4) + x % 4) = x := by omega
    show wL_law_1615 post Lx xs kc ks (nI n) 16 32 ph (nI c) (nI ne) (nI nr) (nI ns) kn K L R M A Z E r0 r1 rc F (f + 1) (nI j)
    unfold wL_law_1615
    refine lc_3 (br_f (nI_ge hj (by omega)) (lf_1 hj b6 ?_))
    rw [x2, ha_s4 (by omega), ha_a3 (by omega), ha_s24 (by omega)]
    refine br_f (nI_pos (by omega)) (lr_1 J p1 hv.1 (by omega) (by omega) (w := x) (by rw [ex]; exact x3) x1 ?_)
    have zp : ¬ Z x < 0 := by
      rcases hY.1 x x1 with z | ⟨_, i, _, z⟩
      · exact absurd z x4
      · rw [z]; exact nI_pos (by omega)
    exact br_f zp (lg_p J hv.1 hv.2 (br_t x3 (nm_r (nI_1 j) (nx () trivial))))
theorem lt_1504 (J : hx_J n c ne nr ns ph kn K L R M A Z E r0 r1 rc F) (p1 : ph = 1) (hp : post 1) (hL : Lx ≤ 260) {k r : Nat} (hk : k ≤ 500) (hr : r < 24) : ∃ f, wL_law_1504 post Lx xs (nI r) kc ks f (nI k) 0 (nI n) 16 32 ph (nI c) (nI ne) (nI nr) (nI ns) kn K L R M A Z E r0 r1 rc F := by
  refine pk_loop (fun f i (s : Nat × (Nat → Int32)) => wL_law_1504 post Lx xs (nI r) kc ks f (nI (k + 4 * i)) (nI i) (nI n) 16 32 ph (nI c) (nI ne) (nI nr) (nI s.1) kn K L R M A Z E r0 r1 rc (s.2))
    (fun _ s => hx_J n c ne nr s.1 ph kn K L R M A Z E r0 r1 rc s.2) r 0 (ns, F) (by omega) J ?_ ?_
  · intro f s hs
    exact br_t (nI_le (Nat.le_refl _) (by omega)) (lt_1615 hs p1 hp)
  · intro f i s hi hs nx
    obtain ⟨b1, b2, b3, b4, b5, b6, b7⟩ := hj_b hs
    have key : ∀ (x18 : Int32) (z : Nat), 0 < z → z < 1000 → wL_law_1554 post Lx xs (wL_law_1504 post Lx xs (nI r) kc ks f) (nI (k + 4 * i + 1)) (nI r) (nI i) x18 (nI s.1) (nI z) kc ks (nI n) 16 32 ph (nI c) (nI ne) (nI nr) (nI s.1) kn K L R M A Z E r0 r1 rc (s.2) := fun x18 z z1 z2 => by
      unfold wL_law_1554
      refine nm_r (nI_1 _) (lq_cell (by omega) hL (fun v1 => lq_md z1 z2 (fun a ha => nm_r (nI_1 _) (lq_cell (by omega) hL (fun v2 => ?_)))))
      rw [nI_1 s.1]
      refine lq_md (by omega) (by omega) (fun b hb => nm_r (nI_1 _) (lq_cell (by omega) hL (fun v3 => lq_md (by omega) (by omega) (fun d hd => ?_))))
      refine st_any hs p1 (fun e => nm_r (nI_1 i) ?_) (fun hlt g g1 g2 g3 => nm_r (nI_1 i) ?_)
      · exact nx s hs
      · exact nx (s.1 + 1, upd s.2 s.1 (nI g)) (hx_S hs p1 hlt g1 g2 g3)
    refine br_f (nI_ge hi (by omega)) (nm_r (nI_1 _) (lq_cell (by omega) hL (fun v => lq_md (d := 10) (by omega) (by omega) (fun a ha => lc_3 ?_))))
    by_cases a0 : nI a = 0
    · exact br_t a0 (key _ 8 (by omega) (by omega))
    · refine br_f a0 ?_
      by_cases a9 : nI a = 9
      · exact br_t a9 (key _ 8 (by omega) (by omega))
      · refine br_f a9 ?_
        rw [nI_1 s.1]
        exact key _ _ (by omega) (by omega)
theorem lt_1486 (J : hx_J n c ne nr ns ph kn K L R M A Z E r0 r1 rc F) (p1 : ph = 1) (hp : post 1) (hL : Lx ≤ 260) {k : Nat} (hk : k ≤ 400) : wL_law_1486 post Lx xs (nI k) kc ks (nI n) 16 32 ph (nI c) (nI ne) (nI nr) (nI ns) kn K L R M A Z E r0 r1 rc F := by
  unfold wL_law_1486
  exact nm_r (nI_1 k) (lq_cell (by omega) hL (fun v => lq_md (d := 24) (by omega) (by omega) (fun r hr => lt_1504 J p1 hp hL (by omega) hr)))
end HTL
end
section
/-! the replay, level by level -/
noncomputable def hp_cn (P : Nat → Prop) : Nat → Nat
  | 0 => 0
  | m + 1 => hp_cn P m + @ite _ (P m) (Classical.propDecidable _) 1 0
theorem hc_t {P : Nat → Prop} {m : Nat} (h : P m) : hp_cn P (m + 1) = hp_cn P m + 1 := congrArg (hp_cn P m + ·) (if_pos h)
theorem hc_f {P : Nat → Prop} {m : Nat} (h : ¬ P m) : hp_cn P (m + 1) = hp_cn P m := congrArg (hp_cn P m + ·) (if_neg h)
theorem hc_eq {P Q : Nat → Prop} (h : ∀ x, P x ↔ Q x) (m : Nat) : hp_cn P m = hp_cn Q m := by
  have : P = Q := funext fun x => propext (h x)
  rw [this]
theorem hc_le {P Q : Nat → Prop} (h : ∀ x, P x → Q x) (m : Nat) : hp_cn P m ≤ hp_cn Q m := by
  induction m with
  | zero => exact Nat.le_refl _
  | succ m ih =>
    by_cases p : P m
    · rw [hc_t p, hc_t (h m p)]
      omega
    · rw [hc_f p]
      by_cases q : Q m
      · rw [hc_t q]; omega
      · rw [hc_f q]; exact ih
theorem hc_m {P : Nat → Prop} (m : Nat) : hp_cn P m ≤ m := by
  induction m with
  | zero => exact Nat.le_refl _
  | succ m ih =>
    by_cases p : P m
    · rw [hc_t p]; omega
    · rw [hc_f p]; omega
/-- one more -/
theorem hc_1m {P Q : Nat → Prop} {g : Nat} (hq : ∀ x, Q x ↔ P x ∨ x = g) (hp : ¬ P g) : ∀ m, g < m → hp_cn Q m = hp_cn P m + 1 := by
  intro m
  induction m with
  | zero => intro h; omega
  | succ m ih =>
    intro h
    by_cases e : g = m
    · subst e
      rw [hc_t ((hq g).mpr (Or.inr rfl)), hc_f hp]
      have : ∀ k, k ≤ g → hp_cn Q k = hp_cn P k := by
        intro k
        induction k with
        | zero => exact fun _ => rfl
        | succ k ihk =>
          intro hk
          by_cases p : P k
          · rw [hc_t p, hc_t ((hq k).mpr (Or.inl p)), ihk (by omega)]
          · rw [hc_f p, hc_f (fun z => ((hq k).mp z).elim p (by omega)), ihk (by omega)]
      rw [this g (Nat.le_refl _)]
    · have i := ih (by omega)
      by_cases p : P m
      · rw [hc_t p, hc_t ((hq m).mpr (Or.inl p)), i]
      · rw [hc_f p, hc_f (fun z => ((hq m).mp z).elim p (fun y => e y.symm)), i]
/-- what has its step at level lev, id gg -/
def hp_dn (Z : Nat → Int32) (lev gg x : Nat) : Prop := x < 256 ∧ ∃ i, i < 400 ∧ Z x = nI i ∧ (i < lev ∨ (i = lev ∧ x < gg))
def hp_iv (Z : Nat → Int32) (lev gg ns : Nat) (F : Nat → Int32) : Prop :=
  (∀ j, j < ns → ∃ x, F j = nI x ∧ hp_dn Z lev gg x) ∧ (∀ x, hp_dn Z lev gg x → ∃ j, j < ns ∧ F j = nI x) ∧ ns = hp_cn (hp_dn Z lev gg) 256
section HLV
variable {n c ne nr ns : Nat} {ph kn : Int32} {K L R M A Z E r0 r1 rc F : Nat → Int32} {post : Int32 → Prop} {Lx : Nat} {xs : Nat → Int32} {kc ks : Nat}
theorem hd_e {lev gg lev' gg' : Nat} (h : ∀ x, hp_dn Z lev gg x ↔ hp_dn Z lev' gg' x) (hi : hp_iv Z lev gg ns F) : hp_iv Z lev' gg' ns F := by
  refine ⟨fun j hj => ?_, fun x hx => hi.2.1 x ((h x).mpr hx), ?_⟩
  · obtain ⟨x, x1, x2⟩ := hi.1 j hj
    exact ⟨x, x1, (h x).mp x2⟩
  · rw [← hc_eq h]
    exact hi.2.2
theorem hd_n {lev gg : Nat} (h : ¬ (gg < 256 ∧ Z gg = nI lev)) (hl : lev < 400) (x : Nat) : hp_dn Z lev gg x ↔ hp_dn Z lev (gg + 1) x := by
  constructor
  · rintro ⟨a, i, b, e, z | z⟩
    · exact ⟨a, i, b, e, Or.inl z⟩
    · exact ⟨a, i, b, e, Or.inr ⟨z.1, by omega⟩⟩
  · rintro ⟨a, i, b, e, z | z⟩
    · exact ⟨a, i, b, e, Or.inl z⟩
    · by_cases eg : x = gg
      · subst eg
        rw [z.1] at e
        exact absurd ⟨a, e⟩ h
      · exact ⟨a, i, b, e, Or.inr ⟨z.1, by omega⟩⟩
theorem hd_s {lev gg : Nat} (hg : gg < 256) (hz : Z gg = nI lev) (hl : lev < 400) (x : Nat) : hp_dn Z lev (gg + 1) x ↔ hp_dn Z lev gg x ∨ x = gg := by
  constructor
  · rintro ⟨a, i, b, e, z | z⟩
    · exact Or.inl ⟨a, i, b, e, Or.inl z⟩
    · by_cases eg : x = gg
      · exact Or.inr eg
      · exact Or.inl ⟨a, i, b, e, Or.inr ⟨z.1, by omega⟩⟩
  · rintro (⟨a, i, b, e, z | z⟩ | rfl)
    · exact ⟨a, i, b, e, Or.inl z⟩
    · exact ⟨a, i, b, e, Or.inr ⟨z.1, by omega⟩⟩
    · exact ⟨hg, lev, hl, hz, Or.inr ⟨rfl, by omega⟩⟩
theorem hd_g {lev gg : Nat} (hz : Z gg = nI lev) (hl : lev < 400) : ¬ hp_dn Z lev gg gg := by
  rintro ⟨a, i, b, e, z | z⟩
  · have := ha_eq (e.symm.trans hz) (by omega) (by omega)
    omega
  · omega
theorem hd_x {lev : Nat} (hl : lev + 1 < 400) (x : Nat) : hp_dn Z lev 256 x ↔ hp_dn Z (lev + 1) 0 x := by
  constructor
  · rintro ⟨a, i, b, e, z | z⟩
    · exact ⟨a, i, b, e, Or.inl (by omega)⟩
    · exact ⟨a, i, b, e, Or.inl (by omega)⟩
  · rintro ⟨a, i, b, e, z | z⟩
    · by_cases h : i < lev
      · exact ⟨a, i, b, e, Or.inl h⟩
      · exact ⟨a, i, b, e, Or.inr ⟨by omega, a⟩⟩
    · omega
/-- a step more -/
theorem hd_p {lev gg : Nat} (hg : gg < 256) (hz : Z gg = nI lev) (hl : lev < 400) (hi : hp_iv Z lev gg ns F) : hp_iv Z lev (gg + 1) (ns + 1) (upd F ns (nI gg)) := by
  have hs := hd_s hg hz hl
  refine ⟨fun j hj => ?_, fun x hx => ?_, ?_⟩
  · by_cases e : j = ns
    · subst e
      exact ⟨gg, pk_us, (hs gg).mpr (Or.inr rfl)⟩
    · obtain ⟨x, x1, x2⟩ := hi.1 j (by omega)
      exact ⟨x, by rw [pk_un e]; exact x1, (hs x).mpr (Or.inl x2)⟩
  · rcases (hs x).mp hx with h | rfl
    · obtain ⟨j, j1, j2⟩ := hi.2.1 x h
      exact ⟨j, by omega, by rw [pk_un (by omega)]; exact j2⟩
    · exact ⟨ns, by omega, pk_us⟩
  · rw [hc_1m hs (hd_g hz hl) 256 hg, ← hi.2.2]
/-- room for a step, while the ids of rank at most t are at most 32 -/
theorem hd_r {lev gg t : Nat} (hg : gg < 256) (hz : Z gg = nI lev) (hl : lev ≤ t) (ht : t < 400) (hm : hp_cn (hp_H Z t) 256 ≤ 32) (hi : hp_iv Z lev gg ns F) : ns < 32 ∧ ns + 1 ≤ hp_cn (hp_H Z t) 256 := by
  have h1 := hc_1m (hd_s hg hz (by omega)) (hd_g hz (by omega)) 256 hg
  have h2 : hp_cn (hp_dn Z lev (gg + 1)) 256 ≤ hp_cn (hp_H Z t) 256 := hc_le (fun x ⟨_, i, _, e, z⟩ => ⟨i, by omega, e⟩) 256
  have h3 := hi.2.2
  omega
theorem ll_517 {q3 : Int32} {J507 : hq_T10} {t tid m lev : Nat} (J : hx_J n c ne nr ns ph kn K L R M A Z E r0 r1 rc F) (p1 : ph = 1) (ht : t < 300) (hlt : lev < t) (hm : hp_cn (hp_H Z t) 256 ≤ 32) (hi : hp_iv Z lev 0 ns F)
    (h : ∀ ns F, hx_J n c ne nr ns ph kn K L R M A Z E r0 r1 rc F → hp_iv Z (lev + 1) 0 ns F → J507 (nI (lev + 1)) (nI n) 16 32 ph (nI c) (nI ne) (nI nr) (nI ns) kn K L R M A Z E r0 r1 rc F) : ∃ f, wL_law_517 post Lx xs J507 (nI n) q3 (nI c) (nI t) (nI tid) (nI m) (nI lev) kc ks f 0 (nI n) 16 32 ph (nI c) (nI ne) (nI nr) (nI ns) kn K L R M A Z E r0 r1 rc F := by
  obtain ⟨b1, b2, b3, b4, b5, b6, b7⟩ := hj_b J
  have W := J.1.1
  have C := J.2.1.1
  obtain ⟨_, hY, _, _⟩ := J.2.2.2.resolve_left (fun z => absurd (p1.symm.trans z.1) (by decide))
  refine pk_loop (fun f gg (s : Nat × (Nat → Int32)) => wL_law_517 post Lx xs J507 (nI n) q3 (nI c) (nI t) (nI tid) (nI m) (nI lev) kc ks f (nI gg) (nI n) 16 32 ph (nI c) (nI ne) (nI nr) (nI s.1) kn K L R M A Z E r0 r1 rc (s.2))
    (fun gg s => hx_J n c ne nr s.1 ph kn K L R M A Z E r0 r1 rc s.2 ∧ hp_iv Z lev gg s.1 s.2) 256 0 (ns, F) (by omega) ⟨J, hi⟩ ?_ ?_
  · intro f s hs
    exact br_t (nI_le (a := 256) (b := 256) (by omega) (by decide)) (nm_r (nI_1 lev) (h s.1 s.2 hs.1 (hd_e (hd_x (by omega)) hs.2)))
  · intro f gg s hg hs nx
    have n0 : ¬ (gg < 256 ∧ Z gg = nI lev) → ∀ x, x = nI gg + 1 → wL_law_517 post Lx xs J507 (nI n) q3 (nI c) (nI t) (nI tid) (nI m) (nI lev) kc ks f x (nI n) 16 32 ph (nI c) (nI ne) (nI nr) (nI s.1) kn K L R M A Z E r0 r1 rc (s.2) := fun z => nm_r (nI_1 gg) (nx s ⟨hs.1, hd_e (hd_n z (by omega)) hs.2⟩)
    have val : Z gg = nI lev → A gg = nI gg := fun z => by
      rcases hY.1 gg hg with a | a
      · rw [z] at a
        exact absurd a (ha_ne1 (by omega))
      · exact a.1
    have e16 : ¬ nI lev = nI t := fun z => by
      have := ha_eq z (by omega) (by omega)
      omega
    refine br_f (nI_ge (b := 256) hg (by decide)) (nm_r (ha_s4 (by omega)) (nm_r (ha_a3 (by omega)) (nm_r (ha_s24 (by omega)) (lc_3 (br_f e16 ?_)))))
    by_cases v0 : c ≤ gg / 16
    · refine br_t (nI_le v0 (by omega)) (n0 (fun z => ?_))
      have := (hc_g C hg (val z.2)).1
      omega
    · refine br_f (nI_ge (by omega) (by omega)) ?_
      by_cases v1 : n ≤ gg % 4
      · refine br_t (nI_le v1 (by omega)) (n0 (fun z => ?_))
        have := (hc_g C hg (val z.2)).2.1
        omega
      · refine br_f (nI_ge (by omega) (by omega)) ?_
        by_cases v2 : n ≤ gg / 4 % 4
        · refine br_t (nI_le v2 (by omega)) (n0 (fun z => ?_))
          have := (hc_g C hg (val z.2)).2.2
          omega
        · have hV : hp_V n (gg % 16) := ⟨by omega, by omega⟩
          refine br_f (nI_ge (by omega) (by omega)) (lg_p hs.1 (by omega) hV ?_)
          by_cases e : A gg = nI gg
          · refine br_t e (lr_1 hs.1 p1 (by omega) (by omega) (by omega) (w := gg) (by rw [show gg / 16 * 16 + (4 * (gg / 4 % 4) + gg % 4) = gg by omega]; exact e) hg ?_)
            by_cases z : Z gg = nI lev
            · obtain ⟨r1', r2'⟩ := hd_r hg z (by omega) (by omega) hm hs.2
              refine br_t z (ls_627 hs.1 p1 r1' hg e (hx_S hs.1 p1 r1' hg e (by rw [z]; exact ha_ne1 (by omega))) ?_ rfl (lev := lev) (by omega) z ?_ ?_)
              · exact nx (s.1 + 1, upd s.2 s.1 (nI gg)) ⟨hx_S hs.1 p1 r1' hg e (by rw [z]; exact ha_ne1 (by omega)), hd_p hg z (by omega) hs.2⟩
              · rintro x hx ⟨i, i1, i2⟩
                exact hs.2.2.1 x ⟨hx, i, by omega, i2, Or.inl i1⟩
              · intro j hj y
                obtain ⟨x, x1, x2⟩ := hs.2.1 j hj
                have ex : x = gg := ha_eq (x1.symm.trans y) (by have := x2.1; omega) (by omega)
                subst ex
                exact hd_g z (by omega) x2
            · exact br_f z (n0 (fun y => z y.2))
          · exact br_f e (n0 (fun y => e (val y.2)))
theorem ll_517t {q3 : Int32} {J507 : hq_T10} {t tid m : Nat} (J : hx_J n c ne nr ns ph kn K L R M A Z E r0 r1 rc F) (p1 : ph = 1) (ht : t < 300) (hm : hp_cn (hp_H Z t) 256 ≤ 32) (hi : hp_iv Z t 0 ns F) (hid : tid < 256) (eid : A tid = nI tid) (zid : Z tid = nI t)
    (h : ∀ ns F, hx_J n c ne nr ns ph kn K L R M A Z E r0 r1 rc F → ns ≤ hp_cn (hp_H Z t) 256 → 0 < ns → F (ns - 1) = nI tid → J507 (nI (t + 1)) (nI n) 16 32 ph (nI c) (nI ne) (nI nr) (nI ns) kn K L R M A Z E r0 r1 rc F) : ∃ f, wL_law_517 post Lx xs J507 (nI n) q3 (nI c) (nI t) (nI tid) (nI m) (nI t) kc ks f 0 (nI n) 16 32 ph (nI c) (nI ne) (nI nr) (nI ns) kn K L R M A Z E r0 r1 rc F := by
  obtain ⟨b1, b2, b3, b4, b5, b6, b7⟩ := hj_b J
  refine pk_loop (fun f gg (s : Nat × (Nat → Int32)) => wL_law_517 post Lx xs J507 (nI n) q3 (nI c) (nI t) (nI tid) (nI m) (nI t) kc ks f (nI gg) (nI n) 16 32 ph (nI c) (nI ne) (nI nr) (nI s.1) kn K L R M A Z E r0 r1 rc (s.2))
    (fun gg s => hx_J n c ne nr s.1 ph kn K L R M A Z E r0 r1 rc s.2 ∧ ((gg ≤ tid ∧ hp_iv Z t 0 s.1 s.2) ∨ (tid < gg ∧ s.1 ≤ hp_cn (hp_H Z t) 256 ∧ 0 < s.1 ∧ s.2 (s.1 - 1) = nI tid))) 256 0 (ns, F) (by omega) ⟨J, Or.inl ⟨by omega, hi⟩⟩ ?_ ?_
  · intro f s hs
    rcases hs.2 with z | ⟨_, z1, z2, z3⟩
    · omega
    · exact br_t (nI_le (a := 256) (b := 256) (by omega) (by decide)) (nm_r (nI_1 t) (h s.1 s.2 hs.1 z1 z2 z3))
  · intro f gg s hg hs nx
    refine br_f (nI_ge (b := 256) hg (by decide)) (nm_r (ha_s4 (by omega)) (nm_r (ha_a3 (by omega)) (nm_r (ha_s24 (by omega)) (lc_3 (br_t rfl ?_)))))
    by_cases e : gg = tid
    · subst e
      refine br_t rfl ?_
      have iv := hs.2.resolve_right (fun z => by omega)
      have nd : ∀ x, hp_dn Z t 0 x → hp_dn Z t gg x := fun x ⟨a, i, b, e, z⟩ => ⟨a, i, b, e, Or.inl (by omega)⟩
      have h1 : hp_cn (hp_dn Z t 0) 256 ≤ hp_cn (hp_dn Z t gg) 256 := hc_le nd 256
      have h2 := hc_1m (hd_s hg zid (by omega)) (hd_g zid (by omega)) 256 hg
      have h3 : hp_cn (hp_dn Z t (gg + 1)) 256 ≤ hp_cn (hp_H Z t) 256 := hc_le (fun x ⟨_, i, _, e, z⟩ => ⟨i, by omega, e⟩) 256
      have h4 := iv.2.2.2
      have r1' : s.1 < 32 := by omega
      have zn : ¬ Z gg = -1 := by rw [zid]; exact ha_ne1 (by omega)
      refine ls_627 hs.1 p1 r1' hg eid (hx_S hs.1 p1 r1' hg eid zn) ?_ rfl (lev := t) (by omega) zid ?_ ?_
      · exact nx (s.1 + 1, upd s.2 s.1 (nI gg)) ⟨hx_S hs.1 p1 r1' hg eid zn, Or.inr ⟨by omega, (by omega : s.1 + 1 ≤ hp_cn (hp_H Z t) 256), Nat.succ_pos _, pk_us⟩⟩
      · rintro x hx ⟨i, i1, i2⟩
        exact iv.2.2.1 x ⟨hx, i, by omega, i2, Or.inl i1⟩
      · intro j hj y
        obtain ⟨x, x1, x2⟩ := iv.2.1 j hj
        have ex : x = gg := ha_eq (x1.symm.trans y) (by have := x2.1; omega) (by omega)
        subst ex
        exact hd_g zid (by omega) (nd _ x2)
    · refine br_f (fun z => e (ha_eq z (by omega) (by omega))) (nm_r (nI_1 gg) (nx s ⟨hs.1, ?_⟩))
      rcases hs.2 with ⟨z1, z2⟩ | ⟨z1, z2⟩
      · exact Or.inl ⟨by omega, z2⟩
      · exact Or.inr ⟨by omega, z2⟩
theorem ll_507 {k t tid : Nat} (J : hx_J n c ne nr ns ph kn K L R M A Z E r0 r1 rc F) (p1 : ph = 1) (hp : post 1) (hL : Lx ≤ 260) (hk : k ≤ 400) (ht : t < 300) (hm : hp_cn (hp_H Z t) 256 ≤ 32) (n0 : ns = 0) (hid : tid < 256) (eid : A tid = nI tid) (zid : Z tid = nI t) :
    ∃ f, wL_law_507 post Lx xs (nI n) (nI k) (nI c) (nI t) (nI tid) (nI (hp_cn (hp_H Z t) 256)) kc ks f 0 (nI n) 16 32 ph (nI c) (nI ne) (nI nr) (nI ns) kn K L R M A Z E r0 r1 rc F := by
  have no : ∀ x, ¬ hp_dn Z 0 0 x := by
    rintro x ⟨_, i, _, _, z | z⟩ <;> omega
  have c0 : ∀ m, hp_cn (hp_dn Z 0 0) m = 0 := by
    intro m
    induction m with
    | zero => rfl
    | succ m ih => rw [hc_f (no m), ih]
  have iv : hp_iv Z 0 0 ns F := ⟨fun j hj => by omega, fun x hx => absurd hx (no x), by rw [c0, n0]⟩
  refine pk_loop (fun f lev (s : Nat × (Nat → Int32)) => wL_law_507 post Lx xs (nI n) (nI k) (nI c) (nI t) (nI tid) (nI (hp_cn (hp_H Z t) 256)) kc ks f (nI lev) (nI n) 16 32 ph (nI c) (nI ne) (nI nr) (nI s.1) kn K L R M A Z E r0 r1 rc (s.2))
    (fun lev s => hx_J n c ne nr s.1 ph kn K L R M A Z E r0 r1 rc s.2 ∧ ((lev ≤ t ∧ hp_iv Z lev 0 s.1 s.2) ∨ (t < lev ∧ s.1 ≤ hp_cn (hp_H Z t) 256 ∧ 0 < s.1 ∧ s.2 (s.1 - 1) = nI tid))) (t + 1) 0 (ns, F) (by omega) ⟨J, Or.inl ⟨by omega, iv⟩⟩ ?_ ?_
  · intro f s hs
    rcases hs.2 with z | ⟨_, z1, z2, z3⟩
    · omega
    · obtain ⟨b1, b2, b3, b4, b5, b6, b7⟩ := hj_b hs.1
      refine br_t (nI_lt (by omega) (by omega)) (lc_3 (br_f (nI_nlt z1 (by omega)) ?_))
      have e : nI s.1 - 1 = nI (s.1 - 1) := pk_sub (b := 1) z2
      rw [e]
      exact lf_1 (by omega) b6 (br_t z3 (lt_1486 hs.1 p1 hp hL hk))
  · intro f lev s hl hs nx
    rcases hs.2 with ⟨z1, z2⟩ | ⟨z, _⟩
    · refine br_f (nI_nlt (by omega) (by omega)) ?_
      by_cases e : lev = t
      · subst e
        exact ll_517t hs.1 p1 ht hm z2 hid eid zid (fun ns F J h1 h2 h3 => nx (ns, F) ⟨J, Or.inr ⟨by omega, h1, h2, h3⟩⟩)
      · exact ll_517 hs.1 p1 ht (by omega) hm z2 (fun ns F J h => nx (ns, F) ⟨J, Or.inl ⟨by omega, h⟩⟩)
    · omega
end HLV
end
section
/-! the law -/
section HLW
variable {n c ne nr ns : Nat} {ph kn : Int32} {K L R M A Z E r0 r1 rc F : Nat → Int32} {post : Int32 → Prop} {Lx : Nat} {xs : Nat → Int32} {kc ks : Nat}
theorem lz_377 {k w : Nat} (J : hx_J n c ne nr ns ph kn K L R M A Z E r0 r1 rc F) (p1 : ph = 1) (hp : post 1) (hL : Lx ≤ 260) (hk : k ≤ 400) (n0 : ns = 0) (hw : w < 256) (ew : A w = nI w) :
    ∃ f, wL_law_377 post Lx xs (nI n) (nI k) (nI c) (nI (hp_k Z 256)) (Z w) (nI w) kc ks (nI n) 16 32 ph (nI c) (nI ne) (nI nr) (nI ns) kn K L R M A Z E r0 r1 rc F f 0 0 0 := by
  obtain ⟨b1, b2, b3, b4, b5, b6, b7⟩ := hj_b J
  have C := J.2.1.1
  obtain ⟨_, hY, _, _⟩ := J.2.2.2.resolve_left (fun z => absurd (p1.symm.trans z.1) (by decide))
  have dec : Z w = -1 ∨ ∃ t, t < 300 ∧ Z w = nI t := by
    rcases hY.1 w hw with z | ⟨_, j, b, z⟩
    · exact Or.inl z
    · exact Or.inr ⟨j, by omega, z⟩
  refine pk_loop (fun f g (_ : Unit) => wL_law_377 post Lx xs (nI n) (nI k) (nI c) (nI (hp_k Z 256)) (Z w) (nI w) kc ks (nI n) 16 32 ph (nI c) (nI ne) (nI nr) (nI ns) kn K L R M A Z E r0 r1 rc F f (nI (hp_k Z g)) (nI (hp_cn (fun x => ∃ t, t < 300 ∧ Z w = nI t ∧ hp_H Z t x) g)) (nI g)) (fun _ _ => True) 256 0 () (by omega) trivial ?_ ?_
  · intro f s _
    refine br_t (nI_le (a := 256) (b := 256) (by omega) (by decide)) (br_t rfl ?_)
    rcases dec with z | ⟨t, ht, z⟩
    · exact br_t (by rw [z]; decide) (lt_1486 J p1 hp hL hk)
    · have hm := hc_m (P := fun x => ∃ t, t < 300 ∧ Z w = nI t ∧ hp_H Z t x) 256
      refine br_f (by rw [z]; exact nI_pos (by omega)) ?_
      by_cases h32 : 32 < hp_cn (fun x => ∃ t, t < 300 ∧ Z w = nI t ∧ hp_H Z t x) 256
      · exact br_t (nI_lt (a := 32) h32 (by omega)) (lt_1486 J p1 hp hL hk)
      · refine br_f (nI_nlt (a := 32) (by omega) (by omega)) ?_
        have e : hp_cn (fun x => ∃ t, t < 300 ∧ Z w = nI t ∧ hp_H Z t x) 256 = hp_cn (hp_H Z t) 256 := hc_eq (fun x => ⟨fun ⟨t', h1, h2, h3⟩ => by
          have : t' = t := ha_eq (h2.symm.trans z) (by omega) (by omega)
          rw [← this]; exact h3, fun y => ⟨t, ht, z, y⟩⟩) 256
        rw [e] at h32 ⊢
        rw [z]
        exact ll_507 J p1 hp hL hk ht (by omega) n0 hw ew z
  · intro f g s hg _ nx
    have nx := nx () trivial
    have n0 : Z g = -1 → ∀ x, x = nI g + 1 → wL_law_377 post Lx xs (nI n) (nI k) (nI c) (nI (hp_k Z 256)) (Z w) (nI w) kc ks (nI n) 16 32 ph (nI c) (nI ne) (nI nr) (nI ns) kn K L R M A Z E r0 r1 rc F f (nI (hp_k Z g)) (nI (hp_cn (fun x => ∃ t, t < 300 ∧ Z w = nI t ∧ hp_H Z t x) g)) x := fun z => by
      rw [show hp_k Z (g + 1) = hp_k Z g from congrArg (hp_k Z g + ·) (if_pos z), hc_f (by
        rintro ⟨t, h1, _, j, h3, h4⟩
        rw [z] at h4
        exact ha_ne1 (by omega) h4.symm)] at nx
      exact nm_r (nI_1 g) nx
    have val : ¬ Z g = -1 → A g = nI g := fun z => by
      rcases hY.1 g hg with a | a
      · exact absurd a z
      · exact a.1
    have bad : ¬ A g = nI g → Z g = -1 := fun z => Classical.byContradiction (fun y => z (val y))
    refine br_f (nI_ge (b := 256) hg (by decide)) (nm_r (ha_s4 (by omega)) (nm_r (ha_a3 (by omega)) (nm_r (ha_s24 (by omega)) ?_)))
    by_cases v0 : c ≤ g / 16
    · exact br_t (nI_le v0 (by omega)) (n0 (bad (fun z => by have := (hc_g C hg z).1; omega)))
    · refine br_f (nI_ge (by omega) (by omega)) ?_
      by_cases v1 : n ≤ g % 4
      · exact br_t (nI_le v1 (by omega)) (n0 (bad (fun z => by have := (hc_g C hg z).2.1; omega)))
      · refine br_f (nI_ge (by omega) (by omega)) ?_
        by_cases v2 : n ≤ g / 4 % 4
        · exact br_t (nI_le v2 (by omega)) (n0 (bad (fun z => by have := (hc_g C hg z).2.2; omega)))
        · have hV : hp_V n (g % 16) := ⟨by omega, by omega⟩
          refine br_f (nI_ge (by omega) (by omega)) (lg_p J (by omega) hV ?_)
          by_cases e : A g = nI g
          · refine br_t e (lr_1 J p1 (by omega) (by omega) (by omega) (w := g) (by rw [show g / 16 * 16 + (4 * (g / 4 % 4) + g % 4) = g by omega]; exact e) hg ?_)
            rcases hY.1 g hg with z | ⟨_, j, hj, z⟩
            · have zl : Z g < 0 := by rw [z]; decide
              exact br_t zl (br_t zl (n0 z))
            · have zl : ¬ Z g < 0 := by rw [z]; exact nI_pos (by omega)
              have zn : ¬ Z g = -1 := by rw [z]; exact ha_ne1 (by omega)
              rw [show hp_k Z (g + 1) = hp_k Z g + 1 from congrArg (hp_k Z g + ·) (if_neg zn)] at nx
              refine br_f zl (nm_r (nI_1 _) (br_f zl ?_))
              by_cases m : ∃ t, t < 300 ∧ Z w = nI t ∧ hp_H Z t g
              · rw [hc_t (P := fun x => ∃ t, t < 300 ∧ Z w = nI t ∧ hp_H Z t x) m] at nx
                obtain ⟨t, h1, h2, j', h3, h4⟩ := m
                have ej : j = j' := ha_eq (z.symm.trans h4) (by omega) (by omega)
                exact br_f (by rw [h2, z]; exact nI_nlt (by omega) (by omega)) (nm_r (nI_1 _) (nm_r (nI_1 g) nx))
              · rw [hc_f (P := fun x => ∃ t, t < 300 ∧ Z w = nI t ∧ hp_H Z t x) m] at nx
                refine br_t ?_ (nm_r (nI_1 g) nx)
                rcases dec with y | ⟨t, ht, y⟩
                · rw [y, z]
                  exact Int32.lt_of_lt_of_le (by decide) (nI_pos' (by omega))
                · rw [y, z]
                  refine nI_lt ?_ (by omega)
                  exact Nat.lt_of_not_le (fun q => m ⟨t, ht, y, j, q, z⟩)
          · exact br_f e (n0 (bad e))
theorem lz_209 {k rl : Nat} (J : hx_J n c ne nr ns ph kn K L R M A Z E r0 r1 rc F) (p : ph = 0) (hp : post 1) (hL : Lx ≤ 260) (hk : k ≤ 200) (hr : rl < 5) : ∃ f, wL_law_209 post Lx xs (nI n) (nI c) (nI rl) kc ks f (nI k) 0 (nI n) 16 32 ph (nI c) (nI ne) (nI nr) (nI ns) kn K L R M A Z E r0 r1 rc F := by
  refine pk_loop (fun f i (s : Nat × (Nat → Int32) × (Nat → Int32) × (Nat → Int32)) => wL_law_209 post Lx xs (nI n) (nI c) (nI rl) kc ks f (nI (k + 3 * i)) (nI i) (nI n) 16 32 ph (nI c) (nI ne) (nI s.1) (nI ns) kn K L R M A Z E (s.2.1) (s.2.2.1) (s.2.2.2) F)
    (fun _ s => hx_J n c ne s.1 ns ph kn K L R M A Z E s.2.1 s.2.2.1 s.2.2.2 F) rl 0 (nr, r0, r1, rc) (by omega) J ?_ ?_
  · intro f s hs
    obtain ⟨b1, b2, b3, b4, b5, b6, b7⟩ := hj_b hs
    refine br_t (nI_le (Nat.le_refl _) (by omega)) (lx_sat hs p (fun Z J' => lc_6 rfl (br_t rfl ?_)))
    refine nm_r (nI_1 _) (lq_cell (by omega) hL (fun v1 => lq_md (by omega) (by omega) (fun th hth => nm_r (nI_1 _) (lq_cell (by omega) hL (fun v2 => lq_md (by omega) (by omega) (fun tx htx => nm_r (nI_1 _) (lq_cell (by omega) hL (fun v3 => lq_md (by omega) (by omega) (fun ty hty => ?_)))))))))
    have e2 : (th * 16 + (4 * ty + tx)) % 16 = 4 * ty + tx := by omega
    obtain ⟨w, w1, w2, w3, _⟩ := hc_p hs.1.1 hs.2.1.1 (t := th * 16 + (4 * ty + tx)) ⟨by omega, by rw [e2]; exact ⟨by omega, by omega⟩⟩
    refine lr_1 J' rfl hth htx hty w2 w1 (xg_id b3 b1 hth htx hty ?_)
    rw [w2]
    exact lz_377 J' rfl hp hL (by omega) rfl w1 w3
  · intro f i s hi hs nx
    obtain ⟨b1, b2, b3, b4, b5, b6, b7⟩ := hj_b hs
    have pr : ∀ a, a < c + 1 → (nI a - 1 = -1 ∨ ∃ h, h < c ∧ nI a - 1 = nI h) := fun a ha => by
      by_cases e : a = 0
      · subst e
        exact Or.inl (by decide)
      · exact Or.inr ⟨a - 1, by omega, pk_sub (b := 1) (by omega)⟩
    refine br_f (nI_ge hi (by omega)) (nm_r (nI_1 _) (lq_cell (by omega) hL (fun v1 => ?_)))
    rw [nI_1 c]
    refine lq_md (by omega) (by omega) (fun a ha => nm_e (nm_r (nI_1 _) (lq_cell (by omega) hL (fun v2 => lq_md (by omega) (by omega) (fun b hb => nm_e (nm_r (nI_1 _) (lq_cell (by omega) hL (fun v3 => lq_md (by omega) (by omega) (fun d hd => ?_)))))))))
    exact lx_rule hs p hd (pr a ha) (pr b hb) (fun r nr' r0' r1' rc' J' => nm_r (nI_1 i) (nx (nr', r0', r1', rc') J'))
theorem lz_161 {k q : Nat} (J : hx_J n c ne nr ns ph kn K L R M A Z E r0 r1 rc F) (p : ph = 0) (hp : post 1) (hL : Lx ≤ 260) (hk : k ≤ 100) (hq : q < 5) : ∃ f, wL_law_161 post Lx xs (nI n) (nI c) (nI q) kc ks f (nI k) 0 (nI n) 16 32 ph (nI c) (nI ne) (nI nr) (nI ns) kn K L R M A Z E r0 r1 rc F := by
  refine pk_loop (fun f i (s : Nat × (Nat → Int32)) => wL_law_161 post Lx xs (nI n) (nI c) (nI q) kc ks f (nI (k + i)) (nI i) (nI n) 16 32 ph (nI c) (nI s.1) (nI nr) (nI ns) kn K L R M A Z (s.2) r0 r1 rc F)
    (fun _ s => hx_J n c s.1 nr ns ph kn K L R M A Z s.2 r0 r1 rc F) q 0 (ne, E) (by omega) J ?_ ?_
  · intro f s hs
    exact br_t (nI_le (Nat.le_refl _) (by omega)) (nm_r (nI_1 _) (lq_cell (by omega) hL (fun v => lq_md (d := 5) (by omega) (by omega) (fun r hr => lz_209 hs p hp hL (by omega) hr))))
  · intro f i s hi hs nx
    obtain ⟨b1, b2, b3, b4, b5, b6, b7⟩ := hj_b hs
    exact br_f (nI_ge hi (by omega)) (nm_r (nI_1 _) (lq_cell (by omega) hL (fun v => lq_md (by omega) (by omega) (fun j hj => lx_know hs p hj (fun r ne' E' J' => nm_r (nI_1 i) (nx (ne', E') J'))))))
theorem lz_45 {q : Nat} (J : hx_J n c ne nr ns ph kn K L R M A Z E r0 r1 rc F) (p : ph = 0) (hp : post 1) (hL : Lx ≤ 260) (hq : q < 13) : ∃ f, wL_law_45 post Lx xs (nI n) (nI q) kc ks f (nI 2) 0 (nI n) 16 32 ph (nI c) (nI ne) (nI nr) (nI ns) kn K L R M A Z E r0 r1 rc F := by
  refine pk_loop (fun f i (s : Nat × (Nat → Int32) × (Nat → Int32) × (Nat → Int32) × (Nat → Int32) × (Nat → Int32)) => wL_law_45 post Lx xs (nI n) (nI q) kc ks f (nI (2 + 3 * i)) (nI i) (nI n) 16 32 ph (nI s.1) (nI ne) (nI nr) (nI ns) kn (s.2.1) (s.2.2.1) (s.2.2.2.1) (s.2.2.2.2.1) (s.2.2.2.2.2) Z E r0 r1 rc F)
    (fun _ s => hx_J n s.1 ne nr ns ph kn s.2.1 s.2.2.1 s.2.2.2.1 s.2.2.2.2.1 s.2.2.2.2.2 Z E r0 r1 rc F) q 0 (c, K, L, R, M, A) (by omega) J ?_ ?_
  · intro f s hs
    refine br_t (nI_le (Nat.le_refl _) (by omega)) (lc_0 (nm_r (nI_1 _) (lq_cell (by omega) hL (fun v => lq_md (d := 4) (by omega) (by omega) (fun r hr => nm_r (nI_add 1 r) (lz_161 hs p hp hL (by omega) (by omega)))))))
  · intro f i s hi hs nx
    obtain ⟨b1, b2, b3, b4, b5, b6, b7⟩ := hj_b hs
    refine br_f (nI_ge hi (by omega)) (nm_r (nI_1 _) (lq_cell (by omega) hL (fun v1 => lq_md (d := 5) (by omega) (by omega) (fun a ha => nm_r (nI_add 1 a) (lc_0 (nm_r (nI_1 _) (lq_cell (by omega) hL (fun v2 => lq_md (by omega) (by omega) (fun b hb => nm_r (nI_1 _) (lq_cell (by omega) hL (fun v3 => lq_md (by omega) (by omega) (fun d hd => ?_))))))))))))
    by_cases e : a = 0
    · subst e
      refine br_t (by decide) ?_
      unfold wL_law_123
      refine lx_make hs p (by omega) (by omega) (fun _ => ?_) (fun z => absurd rfl z) ⟨d, hd, rfl⟩ (fun r c' K' L' R' M' A' J' => nm_r (nI_1 i) (nx (c', K', L', R', M', A') J'))
      rw [pk_andN (m := 1) (by omega) 1 (by decide)]
      obtain h | h : b % 2 ^ 1 = 0 ∨ b % 2 ^ 1 = 1 := by omega
      · rw [h]; exact Or.inl rfl
      · rw [h]; exact Or.inr rfl
    · have n1 : ¬ nI (1 + a) = 1 := fun z => by
        have : 1 + a = 1 := ha_eq (b := 1) z (by omega) (by omega)
        omega
      refine br_f n1 ?_
      unfold wL_law_123
      exact lx_make hs p (by omega) (by omega) (fun z => by omega) (fun _ => ⟨b, hb, rfl⟩) ⟨d, hd, rfl⟩ (fun r c' K' L' R' M' A' J' => nm_r (nI_1 i) (nx (c', K', L', R', M', A') J'))
end HLW
theorem i_vc (xs : Nat → Int32) (L : Nat) (hL : L ≤ 260) : wpL_law (fun r => r = 1) L xs := by
  unfold wpL_law
  refine lq_cell (k := 0) (by omega) hL (fun v => lq_md (d := 3) (by omega) (by omega) (fun r hr => nm_r (nI_add 2 r) ⟨11, 640, by omega, by omega, lx_init (by omega) (by omega) ?_⟩))
  intro K L' R M A Z E r0 r1 rc F J
  refine nm_r (show (1 : Int32) + 1 = nI 2 by decide) (lq_cell (k := 1) (by omega) hL (fun v' => lq_md (d := 13) (by omega) (by omega) (fun q hq => lz_45 J rfl rfl hL hq)))
end
