/-! the places and their ground ids, purely: p is handle p / 16 under code p % 16 -/
def hp_V (n s : Nat) : Prop := s % 4 < n ∧ s / 4 < n
def hp_l (L : Nat → Int32) (p : Nat) : Nat := (L (p / 16)).toNatClampNeg * 16 + p % 16
def hp_a (K : Nat → Int32) (p : Nat) : Prop := K (p / 16) = 0 ∨ K (p / 16) = 1
def hp_n (K L : Nat → Int32) (p : Nat) : Nat := if K (p / 16) = 0 then p / 16 else if L (p / 16) = 0 then p % 16 % 4 else p % 16 / 4
def hp_S (K L R A : Nat → Int32) (p q : Nat) : Prop :=
  (hp_a K p ∧ hp_a K q ∧ hp_n K L p = hp_n K L q) ∨
  (¬ hp_a K p ∧ K (p / 16) = K (q / 16) ∧ A (hp_l L p) = A (hp_l L q) ∧ (K (p / 16) = 5 ∨ A (hp_l R p) = A (hp_l R q)))
def hp_T (K L R : Nat → Int32) (h : Nat) : Prop :=
  (K h = 1 ∧ (L h = 0 ∨ L h = 1) ∧ R h = -1) ∨
  (K h = 5 ∧ (∃ l, l < h ∧ L h = nI l) ∧ R h = -1) ∨
  ((K h = 2 ∨ K h = 3 ∨ K h = 4) ∧ (∃ l, l < h ∧ L h = nI l) ∧ ∃ r, r < h ∧ R h = nI r)
def hp_W (n c : Nat) (K L R : Nat → Int32) : Prop :=
  2 ≤ n ∧ n ≤ 4 ∧ c ≤ 16 ∧ ∀ h, h < c → (h < n ∧ K h = 0 ∧ L h = nI h ∧ R h = -1) ∨ (n ≤ h ∧ hp_T K L R h)
def hp_Q (n c : Nat) (K L R A : Nat → Int32) (p : Nat) : Prop :=
  (p / 16 < c → hp_V n (p % 16) → ∃ q, q ≤ p ∧ A p = nI q ∧ hp_V n (q % 16) ∧ hp_S K L R A p q ∧ ∀ q', q' < q → hp_V n (q' % 16) → ¬ hp_S K L R A p q') ∧
  (¬ (p / 16 < c ∧ hp_V n (p % 16)) → A p = -1)
section HC
variable {n c : Nat} {K L R A : Nat → Int32} {p q r : Nat}
theorem hs_r : hp_S K L R A p p := by
  by_cases h : hp_a K p
  · exact Or.inl ⟨h, h, rfl⟩
  · exact Or.inr ⟨h, rfl, rfl, Or.inr rfl⟩
theorem hs_k (h : hp_a K p) (e : K (p / 16) = K (q / 16)) : hp_a K q := by
  unfold hp_a at h ⊢
  rw [← e]
  exact h
theorem hs_s (h : hp_S K L R A p q) : hp_S K L R A q p := by
  rcases h with ⟨a, b, c⟩ | ⟨a, b, c, d⟩
  · exact Or.inl ⟨b, a, c.symm⟩
  · refine Or.inr ⟨fun z => a (hs_k z b.symm), b.symm, c.symm, ?_⟩
    rcases d with d | d
    · exact Or.inl (b.symm.trans d)
    · exact Or.inr d.symm
theorem hs_t (h : hp_S K L R A p q) (g : hp_S K L R A q r) : hp_S K L R A p r := by
  rcases h with ⟨a, b, c⟩ | ⟨a, b, c, d⟩
  · rcases g with ⟨a', b', c'⟩ | ⟨a', b', c', d'⟩
    · exact Or.inl ⟨a, b', c.trans c'⟩
    · exact absurd b a'
  · rcases g with ⟨a', b', c'⟩ | ⟨a', b', c', d'⟩
    · exact absurd (hs_k a' b.symm) a
    · refine Or.inr ⟨a, b.trans b', c.trans c', ?_⟩
      rcases d with d | d
      · exact Or.inl d
      · rcases d' with e | e
        · exact Or.inl (b.trans e)
        · exact Or.inr (d.trans e)
theorem hw_na {h : Nat} (na : ¬ (K h = 0 ∨ K h = 1)) (W : hp_W n c K L R) (hc : h < c) : n ≤ h ∧ (∃ l, l < h ∧ L h = nI l) ∧ ((K h = 5 ∧ R h = -1) ∨ ((K h = 2 ∨ K h = 3 ∨ K h = 4) ∧ ∃ r, r < h ∧ R h = nI r)) := by
  rcases W.2.2.2 h hc with ⟨_, b, _⟩ | ⟨a, b | b | b⟩
  · exact absurd (Or.inl b) na
  · exact absurd (Or.inr b.1) na
  · exact ⟨a, b.2.1, Or.inl ⟨b.1, b.2.2⟩⟩
  · exact ⟨a, b.2.1, Or.inr ⟨b.1, b.2.2⟩⟩
theorem hw_lp (W : hp_W n c K L R) (hp : p / 16 < c) (na : ¬ hp_a K p) : ∃ l, l < p / 16 ∧ L (p / 16) = nI l ∧ hp_l L p = l * 16 + p % 16 := by
  obtain ⟨_, ⟨l, h1, h2⟩, _⟩ := hw_na na W hp
  have := W.2.2.1
  refine ⟨l, h1, h2, ?_⟩
  unfold hp_l
  rw [h2, nI_clamp (by omega)]
theorem hw_rp (W : hp_W n c K L R) (hp : p / 16 < c) (na : ¬ hp_a K p) (n5 : ¬ K (p / 16) = 5) : ∃ l, l < p / 16 ∧ R (p / 16) = nI l ∧ hp_l R p = l * 16 + p % 16 := by
  obtain ⟨_, _, h3⟩ := hw_na na W hp
  have := W.2.2.1
  rcases h3 with h3 | ⟨_, l, h1, h2⟩
  · exact absurd h3.1 n5
  refine ⟨l, h1, h2, ?_⟩
  unfold hp_l
  rw [h2, nI_clamp (by omega)]
theorem hw_c {K' L' R' : Nat → Int32} (W : hp_W n c K L R) (e : ∀ h, h < c → K' h = K h ∧ L' h = L h ∧ R' h = R h) : hp_W n c K' L' R' := by
  refine ⟨W.1, W.2.1, W.2.2.1, fun h hc => ?_⟩
  obtain ⟨e1, e2, e3⟩ := e h hc
  unfold hp_T
  rw [e1, e2, e3]
  exact W.2.2.2 h hc
theorem hs_c {K' L' R' A' : Nat → Int32} (W : hp_W n c K L R) (e : ∀ h, h < c → K' h = K h ∧ L' h = L h ∧ R' h = R h) (hp : p / 16 < c) (hq : q ≤ p) (ea : ∀ i, i < p → A' i = A i) (h : hp_S K L R A p q) : hp_S K' L' R' A' p q := by
  have hq' : q / 16 < c := by omega
  obtain ⟨kp, lp, rp⟩ := e _ hp
  obtain ⟨kq, lq, rq⟩ := e _ hq'
  have el : ∀ x, x / 16 < c → hp_l L' x = hp_l L x := fun x hx => by unfold hp_l; rw [(e _ hx).2.1]
  have er : ∀ x, x / 16 < c → hp_l R' x = hp_l R x := fun x hx => by unfold hp_l; rw [(e _ hx).2.2]
  rcases h with ⟨a, b, d⟩ | ⟨a, b, d, f⟩
  · refine Or.inl ⟨?_, ?_, ?_⟩
    · unfold hp_a at a ⊢
      rw [kp]; exact a
    · unfold hp_a at b ⊢
      rw [kq]; exact b
    · unfold hp_n at d ⊢
      rw [kp, kq, lp, lq]; exact d
  · have aq : ¬ hp_a K q := fun z => a (hs_k z b.symm)
    obtain ⟨l1, h1, _, e1⟩ := hw_lp W hp a
    obtain ⟨l2, h2, _, e2⟩ := hw_lp W hq' aq
    refine Or.inr ⟨?_, by rw [kp, kq]; exact b, ?_, ?_⟩
    · unfold hp_a at a ⊢
      rw [kp]; exact a
    · rw [el p hp, el q hq', ea _ (by rw [e1]; omega), ea _ (by rw [e2]; omega)]
      exact d
    · by_cases h5 : K (p / 16) = 5
      · exact Or.inl (kp.trans h5)
      · rcases f with f | f
        · exact absurd f h5
        · obtain ⟨r1, g1, _, i1⟩ := hw_rp W hp a h5
          obtain ⟨r2, g2, _, i2⟩ := hw_rp W hq' aq (by rw [← b]; exact h5)
          refine Or.inr ?_
          rw [er p hp, er q hq', ea _ (by rw [i1]; omega), ea _ (by rw [i2]; omega)]
          exact f
theorem hq_c {K' L' R' A' : Nat → Int32} {c' : Nat} (W : hp_W n c K L R) (e : ∀ h, h < c → K' h = K h ∧ L' h = L h ∧ R' h = R h) (hc : p / 16 < c' ↔ p / 16 < c) (ea : ∀ i, i ≤ p → A' i = A i) (h : hp_Q n c K L R A p) : hp_Q n c' K' L' R' A' p := by
  refine ⟨fun h1 h2 => ?_, fun h1 => ?_⟩
  · have hp := hc.mp h1
    obtain ⟨q, a, b, d, f, g⟩ := h.1 hp h2
    refine ⟨q, a, by rw [ea p (Nat.le_refl _)]; exact b, d, hs_c W e hp a (fun i hi => ea i (by omega)) f, fun q' h3 h4 h5 => g q' h3 h4 ?_⟩
    exact hs_c (hw_c W e) (fun h hh => ⟨(e h hh).1.symm, (e h hh).2.1.symm, (e h hh).2.2.symm⟩) hp (by omega) (fun i hi => (ea i (by omega)).symm) h5
  · rw [ea p (Nat.le_refl _)]
    exact h.2 (fun z => h1 ⟨hc.mpr z.1, z.2⟩)
/-- what stands below m: the canonical place of a place is its own -/
theorem hc_1 {m : Nat} (C : ∀ p, p < m → hp_Q n c K L R A p) (hp : p < m) (h1 : p / 16 < c) (h2 : hp_V n (p % 16)) : ∃ q, q ≤ p ∧ A p = nI q ∧ q / 16 < c ∧ hp_V n (q % 16) ∧ hp_S K L R A p q ∧ A q = nI q := by
  obtain ⟨q, a, b, d, f, g⟩ := (C p hp).1 h1 h2
  have hq : q / 16 < c := by omega
  refine ⟨q, a, b, hq, d, f, ?_⟩
  obtain ⟨q2, a2, b2, d2, f2, g2⟩ := (C q (by omega)).1 hq d
  by_cases e : q2 < q
  · exact absurd (hs_t f f2) (g q2 e d2)
  · have : q2 = q := by omega
    rw [this] at b2
    exact b2
/-- the next place, given the least place like it -/
theorem hq_s {m : Nat} (W : hp_W n c K L R) (C : ∀ p, p < m → hp_Q n c K L R A p) (h1 : m / 16 < c) (hq : q ≤ m) (hv : hp_V n (q % 16)) (hS : hp_S K L R A m q) (hl : ∀ q', q' < q → hp_V n (q' % 16) → ¬ hp_S K L R A m q') (hvm : hp_V n (m % 16)) : ∀ p, p < m + 1 → hp_Q n c K L R (upd A m (nI q)) p := by
  have ea : ∀ i, i < m → upd A m (nI q) i = A i := fun i hi => pk_un (by omega)
  have e : ∀ h, h < c → K h = K h ∧ L h = L h ∧ R h = R h := fun h _ => ⟨rfl, rfl, rfl⟩
  intro p hp
  by_cases hpm : p < m
  · exact hq_c W e Iff.rfl (fun i hi => ea i (by omega)) (C p hpm)
  · have : p = m := by omega
    subst this
    refine ⟨fun _ _ => ⟨q, hq, pk_us, hv, hs_c W e h1 hq ea hS, fun q' h3 h4 h5 => hl q' h3 h4 ?_⟩, fun z => absurd ⟨h1, hvm⟩ z⟩
    exact hs_c W e h1 (by omega) (fun i hi => (ea i hi).symm) h5
theorem hq_n {m : Nat} (C : ∀ p, p < m → hp_Q n c K L R A p) (ha : A m = -1) (h : ¬ (m / 16 < c ∧ hp_V n (m % 16))) : ∀ p, p < m + 1 → hp_Q n c K L R A p := by
  intro p hp
  by_cases hpm : p < m
  · exact C p hpm
  · have : p = m := by omega
    subst this
    exact ⟨fun a b => absurd ⟨a, b⟩ h, fun _ => ha⟩
/-- an atom's least place is its name's -/
theorem hq_a (W : hp_W n c K L R) (h1 : p / 16 < c) (h2 : hp_V n (p % 16)) (ha : hp_a K p) :
    16 * hp_n K L p ≤ p ∧ hp_V n (16 * hp_n K L p % 16) ∧ hp_S K L R A p (16 * hp_n K L p) ∧ ∀ q', q' < 16 * hp_n K L p → hp_V n (q' % 16) → ¬ hp_S K L R A p q' := by
  have hx : hp_n K L p < n ∧ hp_n K L p ≤ p / 16 := by
    rcases W.2.2.2 _ h1 with ⟨a, b, _⟩ | ⟨a, b⟩
    · unfold hp_n
      rw [if_pos b]
      omega
    · have hk : ¬ K (p / 16) = 0 := by
        rcases b with b | b | ⟨b | b | b, _⟩
        · rw [b.1]; decide
        · rw [b.1]; decide
        · rw [b]; decide
        · rw [b]; decide
        · rw [b]; decide
      unfold hp_n
      rw [if_neg hk]
      have := h2.1
      have := h2.2
      split <;> omega
  have hz : ∀ x, x / 16 < n → x / 16 < c → K (x / 16) = 0 := fun x a b => by
    rcases W.2.2.2 _ b with ⟨_, y, _⟩ | ⟨y, _⟩
    · exact y
    · omega
  have e1 : 16 * hp_n K L p / 16 = hp_n K L p := by omega
  have k1 : K (16 * hp_n K L p / 16) = 0 := hz _ (by omega) (by omega)
  have w1 := W.1
  have nx : ∀ x, K (x / 16) = 0 → hp_n K L x = x / 16 := fun x h => by
    unfold hp_n
    rw [if_pos h]
  refine ⟨by omega, ⟨by omega, by omega⟩, Or.inl ⟨ha, Or.inl k1, ?_⟩, ?_⟩
  · rw [nx _ k1]
    exact e1.symm
  · intro q' hq' _ hS
    have k2 : K (q' / 16) = 0 := hz _ (by omega) (by omega)
    rcases hS with ⟨_, _, z⟩ | ⟨z, _⟩
    · have := nx _ k2
      omega
    · exact z ha
/-- what a scan for a ground term asks of a place -/
def hp_q (K L R A : Nat → Int32) (k u v : Int32) (g : Nat) : Prop := A g = nI g ∧ K (g / 16) = k ∧ A (hp_l L g) = u ∧ (k = 5 ∨ A (hp_l R g) = v)
def hp_f (K L R A : Nat → Int32) (p g : Nat) : Prop := hp_q K L R A (K (p / 16)) (A (hp_l L p)) (A (hp_l R p)) g
theorem hf_S (na : ¬ hp_a K p) (h : hp_f K L R A p q) : hp_S K L R A p q :=
  Or.inr ⟨na, h.2.1.symm, h.2.2.1.symm, h.2.2.2.elim Or.inl (fun z => Or.inr z.symm)⟩
theorem hf_o (na : ¬ hp_a K p) (hA : A q = nI q) (h : hp_S K L R A p q) : hp_f K L R A p q := by
  rcases h with ⟨a, _⟩ | ⟨_, b, d, f⟩
  · exact absurd a na
  · exact ⟨hA, b.symm, d.symm, f.elim Or.inl (fun z => Or.inr z.symm)⟩
theorem hf_t {m : Nat} (C : ∀ p, p < m → hp_Q n c K L R A p) (h1 : m / 16 < c) (na : ¬ hp_a K m) {g : Nat} (hg : ∀ q, q < g → ¬ hp_f K L R A m q) (hq : q < m) (hqg : q < g) (hv : hp_V n (q % 16)) : ¬ hp_S K L R A m q := by
  intro hS
  obtain ⟨q2, a2, _, _, _, s2, e2⟩ := hc_1 C hq (by omega) hv
  exact hg q2 (by omega) (hf_o na e2 (hs_t hS s2))
/-- a scan that finds g first: g is the least place like m; one that finds none: m is -/
theorem hq_f {m g : Nat} (C : ∀ p, p < m → hp_Q n c K L R A p) (hz : ∀ p, m ≤ p → p < 256 → A p = -1) (h1 : m / 16 < c) (na : ¬ hp_a K m) (hg : g < 256) (hf : hp_f K L R A m g) (hl : ∀ q, q < g → ¬ hp_f K L R A m q) :
    g ≤ m ∧ hp_V n (g % 16) ∧ hp_S K L R A m g ∧ ∀ q', q' < g → hp_V n (q' % 16) → ¬ hp_S K L R A m q' := by
  have hgm : g < m := by
    by_cases e : g < m
    · exact e
    · have := hz g (by omega) hg
      rw [hf.1] at this
      exact absurd this (ha_ne1 (by omega))
  have hV : hp_V n (g % 16) := by
    by_cases e : hp_V n (g % 16)
    · exact e
    · have := (C g hgm).2 (fun z => e z.2)
      rw [hf.1] at this
      exact absurd this (ha_ne1 (by omega))
  exact ⟨by omega, hV, hf_S na hf, fun q' a b => hf_t C h1 na hl (by omega) a b⟩
theorem hq_0 {m : Nat} (C : ∀ p, p < m → hp_Q n c K L R A p) (h1 : m / 16 < c) (hm : m < 256) (na : ¬ hp_a K m) (hl : ∀ q, q < 256 → ¬ hp_f K L R A m q) : ∀ q', q' < m → hp_V n (q' % 16) → ¬ hp_S K L R A m q' :=
  fun q' a b => hf_t C h1 na hl a (by omega) b
end HC
