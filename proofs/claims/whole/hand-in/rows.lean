section
theorem pk_us {f : Nat → Int32} {k : Nat} {x : Int32} : upd f k x k = x := if_pos rfl
theorem pk_un {f : Nat → Int32} {k j : Nat} {x : Int32} (h : j ≠ k) : upd f k x j = f j := if_neg h
theorem pk_sub {a b : Nat} (h : b ≤ a) : nI a - nI b = nI (a - b) := by
  obtain ⟨c, rfl⟩ : ∃ c, a = c + b := ⟨a - b, by omega⟩
  rw [← nI_add, Int32.add_sub_cancel, Nat.add_sub_cancel]
theorem pk_m1 (n : Nat) : nI (n + 1) + (-1) = nI n := by
  rw [← nI_1, Int32.add_assoc, show (1 : Int32) + (-1) = 0 from rfl, Int32.add_zero]
theorem pk_mul (a b : Nat) : nI a * nI b = nI (a * b) := (Int32.ofNat_mul a b).symm
theorem pk_div {a d : Nat} (ha : a < 2 ^ 31) (h0 : 0 < d) (hd : d < 2 ^ 31) : nI a / nI d = nI (a / d) := by
  apply Int32.toInt_inj.mp
  rw [lg_idiv_nonneg (by rw [nI_toInt ha]; omega) (by rw [nI_toInt hd]; omega), nI_toInt ha, nI_toInt hd, nI_toInt (Nat.lt_of_le_of_lt (Nat.div_le_self a d) ha)]
  first | rfl | exact (Int.natCast_ediv _ _).symm
theorem pk_rem {a d : Nat} (ha : a < 2 ^ 31) (h0 : 0 < d) (hd : d < 2 ^ 31) : nI a - nI a / nI d * nI d = nI (a % d) := by
  rw [pk_div ha h0 hd, pk_mul, pk_sub (Nat.div_mul_le_self a d)]
  exact congrArg nI (by have := Nat.div_add_mod' a d; omega)
theorem pk_ix (x : Int32) {n : Nat} (hn : n < 2 ^ 31) : x < 0 ∨ nI n ≤ x ∨ ∃ j : Nat, j < n ∧ x = nI j := by
  by_cases h : x < 0
  · exact Or.inl h
  · obtain ⟨j, hj, rfl⟩ := nI_of h
    by_cases h2 : j < n
    · exact Or.inr (Or.inr ⟨j, h2, rfl⟩)
    · exact Or.inr (Or.inl (nI_le (by omega) hj))
theorem pk_le {x y : Int32} {A B : Prop} (a b : Nat) (f : a ≤ b → A) (g : b < a → B) (hx : x = nI a := by rfl) (hy : y = nI b := by rfl) (ha : a < 2 ^ 31 := by omega) (hb : b < 2 ^ 31 := by omega) : (x ≤ y → A) ∧ (¬ x ≤ y → B) := by
  subst hx hy
  rw [nI_leI ha hb]
  exact ⟨f, fun z => g (by omega)⟩
theorem pk_lt {x y : Int32} {A B : Prop} (a b : Nat) (f : a < b → A) (g : b ≤ a → B) (hx : x = nI a := by rfl) (hy : y = nI b := by rfl) (ha : a < 2 ^ 31 := by omega) (hb : b < 2 ^ 31 := by omega) : (x < y → A) ∧ (¬ x < y → B) := by
  subst hx hy
  rw [nI_ltI ha hb]
  exact ⟨f, fun z => g (by omega)⟩
theorem pk_eq {x y : Int32} {A B : Prop} (a b : Nat) (f : a = b → A) (g : a ≠ b → B) (hx : x = nI a := by rfl) (hy : y = nI b := by rfl) (ha : a < 2 ^ 31 := by omega) (hb : b < 2 ^ 31 := by omega) : (x = y → A) ∧ (¬ x = y → B) := by
  subst hx hy
  rw [nI_eq ha hb]
  exact ⟨f, g⟩
theorem pk_in {x : Int32} (n N : Nat) (h : n < N) (hx : x = nI n := by rfl) (hN : N < 2 ^ 31 := by omega) : vp_in x N := by
  subst hx
  exact vp_in_nI h hN
theorem pk_cl {x : Int32} (n : Nat) (hx : x = nI n := by rfl) (h : n < 2 ^ 31 := by omega) : x.toNatClampNeg = n := by
  subst hx
  exact nI_clamp h
theorem pk_tn {n : Nat} (h : n < 2 ^ 32) : (nI n).toBitVec.toNat = n := Nat.mod_eq_of_lt h
theorem pk_and (x : Int32) {m : Int32} (k : Nat) (hm : m.toBitVec.toNat = 2 ^ k - 1) : x &&& m = nI (x.toBitVec.toNat % 2 ^ k) := by
  apply Int32.toBitVec_inj.mp
  apply BitVec.eq_of_toNat_eq
  rw [Int32.toBitVec_and, BitVec.toNat_and, hm, Nat.and_two_pow_sub_one_eq_mod]
  show _ = (BitVec.ofNat 32 _).toNat
  rw [BitVec.toNat_ofNat]
  exact (Nat.mod_eq_of_lt (Nat.lt_of_le_of_lt (Nat.mod_le _ _) x.toBitVec.isLt)).symm
theorem pk_andN {n : Nat} (h : n < 2 ^ 32) {m : Int32} (k : Nat) (hm : m.toBitVec.toNat = 2 ^ k - 1) : nI n &&& m = nI (n % 2 ^ k) := by
  rw [pk_and _ k hm, pk_tn h]
theorem pk_shr (a s : Int32) (k : Nat) (hs : (s.toBitVec.smod 32).toNat = k) : (a >>> s).toInt = a.toInt >>> k := by
  show (a.toBitVec.sshiftRight (s.toBitVec.smod 32).toNat).toInt = _
  rw [hs, BitVec.toInt_sshiftRight]
  rfl
theorem pk_shrN {n : Nat} (h : n < 2 ^ 31) (s : Int32) (k : Nat) (hs : (s.toBitVec.smod 32).toNat = k) : nI n >>> s = nI (n / 2 ^ k) := by
  apply Int32.toInt_inj.mp
  have h2 : n / 2 ^ k ≤ n := Nat.div_le_self _ _
  rw [pk_shr _ _ k hs, nI_toInt h, nI_toInt (by omega), Int.shiftRight_eq_div_pow]
  rfl
theorem pk_loop {σ : Type} (W : Nat → Nat → σ → Prop) (I : Nat → σ → Prop) (e i0 : Nat) (s : σ) (hi : i0 ≤ e) (h0 : I i0 s) (hx : ∀ n s, I e s → W (n + 1) e s)
    (hs : ∀ n i s, i < e → I i s → (∀ s', I (i + 1) s' → W n (i + 1) s') → W (n + 1) i s) : ∃ n, W n i0 s :=
  ⟨e + 1, loop_i W I e hx hs (e + 1) i0 s hi (by omega) h0⟩
theorem lp1 {A1 : Type} (W : Nat → A1 → Prop) (I : A1 → Prop) (μ : A1 → Nat) (hs : ∀ (n : Nat) (a1 : A1), I a1 → (∀ (b1 : A1), I b1 → μ b1 < μ a1 → W n b1) → W (n + 1) a1) (a1 : A1) (h : I a1) : ∃ n, W n a1 :=
  loop_m (σ := A1) (fun n s => W n s) (fun s => I s) (fun s => μ s) (fun n s hI hk => hs n s hI (fun b1 h9 hm => hk b1 h9 hm)) a1 h
theorem lp2 {A1 A2 : Type} (W : Nat → A1 → A2 → Prop) (I : A1 → A2 → Prop) (μ : A1 → A2 → Nat) (hs : ∀ (n : Nat) (a1 : A1) (a2 : A2), I a1 a2 → (∀ (b1 : A1) (b2 : A2), I b1 b2 → μ b1 b2 < μ a1 a2 → W n b1 b2) → W (n + 1) a1 a2) (a1 : A1) (a2 : A2) (h : I a1 a2) : ∃ n, W n a1 a2 :=
  loop_m (σ := A1 × A2) (fun n s => W n s.1 s.2) (fun s => I s.1 s.2) (fun s => μ s.1 s.2) (fun n s hI hk => hs n s.1 s.2 hI (fun b1 b2 h9 hm => hk (b1, b2) h9 hm)) (a1, a2) h
theorem lp3 {A1 A2 A3 : Type} (W : Nat → A1 → A2 → A3 → Prop) (I : A1 → A2 → A3 → Prop) (μ : A1 → A2 → A3 → Nat) (hs : ∀ (n : Nat) (a1 : A1) (a2 : A2) (a3 : A3), I a1 a2 a3 → (∀ (b1 : A1) (b2 : A2) (b3 : A3), I b1 b2 b3 → μ b1 b2 b3 < μ a1 a2 a3 → W n b1 b2 b3) → W (n + 1) a1 a2 a3) (a1 : A1) (a2 : A2) (a3 : A3) (h : I a1 a2 a3) : ∃ n, W n a1 a2 a3 :=
  loop_m (σ := A1 × A2 × A3) (fun n s => W n s.1 s.2.1 s.2.2) (fun s => I s.1 s.2.1 s.2.2) (fun s => μ s.1 s.2.1 s.2.2) (fun n s hI hk => hs n s.1 s.2.1 s.2.2 hI (fun b1 b2 b3 h9 hm => hk (b1, b2, b3) h9 hm)) (a1, a2, a3) h
theorem lp4 {A1 A2 A3 A4 : Type} (W : Nat → A1 → A2 → A3 → A4 → Prop) (I : A1 → A2 → A3 → A4 → Prop) (μ : A1 → A2 → A3 → A4 → Nat) (hs : ∀ (n : Nat) (a1 : A1) (a2 : A2) (a3 : A3) (a4 : A4), I a1 a2 a3 a4 → (∀ (b1 : A1) (b2 : A2) (b3 : A3) (b4 : A4), I b1 b2 b3 b4 → μ b1 b2 b3 b4 < μ a1 a2 a3 a4 → W n b1 b2 b3 b4) → W (n + 1) a1 a2 a3 a4) (a1 : A1) (a2 : A2) (a3 : A3) (a4 : A4) (h : I a1 a2 a3 a4) : ∃ n, W n a1 a2 a3 a4 :=
  loop_m (σ := A1 × A2 × A3 × A4) (fun n s => W n s.1 s.2.1 s.2.2.1 s.2.2.2) (fun s => I s.1 s.2.1 s.2.2.1 s.2.2.2) (fun s => μ s.1 s.2.1 s.2.2.1 s.2.2.2) (fun n s hI hk => hs n s.1 s.2.1 s.2.2.1 s.2.2.2 hI (fun b1 b2 b3 b4 h9 hm => hk (b1, b2, b3, b4) h9 hm)) (a1, a2, a3, a4) h
theorem pk_least (P : Nat → Prop) (h : ∃ k, P k) : ∃ k, P k ∧ ∀ j, j < k → ¬ P j := by
  obtain ⟨k, hk⟩ := h
  induction k using Nat.strongRecOn with
  | ind k ih =>
    by_cases e : ∃ j, j < k ∧ P j
    · obtain ⟨j, hj, pj⟩ := e
      exact ih j hj pj
    · exact ⟨k, hk, fun j hj pj => e ⟨j, hj, pj⟩⟩
theorem ek_if {c d A B : Prop} (e : c ↔ d) (f : d → A) (g : ¬ d → B) : (c → A) ∧ (¬ c → B) :=
  ⟨fun z => f (e.mp z), fun z => g (fun y => z (e.mpr y))⟩
theorem ek_v {α : Sort _} {P : α → Prop} {a b : α} (e : a = b) (h : P b) : P a := e ▸ h
/-! own numbers -/
theorem ha_ne1 {a : Nat} (h : a < 2 ^ 31) : ¬ nI a = -1 := by
  intro e
  have := nI_pos (n := a) h
  rw [e] at this
  exact this (by decide)
theorem ha_n1lt : (-1 : Int32) < 0 := by decide
theorem ha_eq {a b : Nat} (h : nI a = nI b) (ha : a < 2 ^ 31) (hb : b < 2 ^ 31) : a = b := (nI_eq ha hb).mp h
theorem ha_16 (a : Nat) : nI a * 16 = nI (a * 16) := pk_mul a 16
theorem ha_4 (a : Nat) : 4 * nI a = nI (4 * a) := pk_mul 4 a
theorem ha_d16 {a : Nat} (h : a < 2 ^ 31) : nI a / 16 = nI (a / 16) := pk_div (d := 16) h (by decide) (by decide)
theorem ha_r16 {a : Nat} (h : a < 2 ^ 31) : nI a - nI a / 16 * 16 = nI (a % 16) := pk_rem (d := 16) h (by decide) (by decide)
theorem ha_a15 {a : Nat} (h : a < 2 ^ 31) : nI a &&& 15 = nI (a % 16) := pk_andN (by omega) 4 (by decide)
theorem ha_a3 {a : Nat} (h : a < 2 ^ 31) : nI a &&& 3 = nI (a % 4) := pk_andN (by omega) 2 (by decide)
theorem ha_a255 {a : Nat} (h : a < 256) : nI a &&& 255 = nI a := by
  rw [pk_andN (m := 255) (by omega) 8 (by decide), Nat.mod_eq_of_lt (by omega)]
theorem ha_s4 {a : Nat} (h : a < 2 ^ 31) : nI a >>> ((4 : Int32) &&& 31) = nI (a / 16) := pk_shrN h _ 4 (by decide)
theorem ha_s2 {a : Nat} (h : a < 2 ^ 31) : nI a >>> ((2 : Int32) &&& 31) = nI (a / 4) := pk_shrN h _ 2 (by decide)
end
section
/-! the places and their ground ids, purely: p is handle p / 16 under code p % 16 -/
def hp_V (n s : Nat) : Prop := s % 4 < n ∧ s / 4 < n
def hp_l (L : Nat → Int32) (p : Nat) : Nat := (L (p / 16)).toNatClampNeg * 16 + p % 16
def hp_a (K : Nat → Int32) (p : Nat) : Prop := K (p / 16) = 0 ∨ K (p / 16) = 1
def hp_n (K L : Nat → Int32) (p : Nat) : Nat := if K (p / 16) = 0 then p / 16 else if L (p / 16) = 0 then p % 16 % 4 else p % 16 / 4
def hp_S (K L R A : Nat → Int32) (p q : Nat) : Prop :=
  (hp_a K p ∧ hp_a K q ∧ hp_n K L p = hp_n K L q) ∨
  (¬ hp_a K p ∧ K (p / 16) = K (q / 16) ∧ A (hp_l L p) = A (hp_l L q) ∧ (K (p / 16) = 5 ∨ A (hp_l R p) = A (hp_l R q)))
def hp_T (K L R : Nat → Int32) (h : Nat) : Prop :=
  (K h = 1 ∧ (L h = 0 ∨ L h = 1) ∧ R h = -1) ∨
  (K h = 5 ∧ (∃ l, l < h ∧ L h = nI l) ∧ R h = -1) ∨
  ((K h = 2 ∨ K h = 3 ∨ K h = 4) ∧ (∃ l, l < h ∧ L h = nI l) ∧ ∃ r, r < h ∧ R h = nI r)
def hp_W (n c : Nat) (K L R : Nat → Int32) : Prop :=
  2 ≤ n ∧ n ≤ 4 ∧ c ≤ 16 ∧ ∀ h, h < c → (h < n ∧ K h = 0 ∧ L h = nI h ∧ R h = -1) ∨ (n ≤ h ∧ hp_T K L R h)
def hp_Q (n c : Nat) (K L R A : Nat → Int32) (p : Nat) : Prop :=
  (p / 16 < c → hp_V n (p % 16) → ∃ q, q ≤ p ∧ A p = nI q ∧ hp_V n (q % 16) ∧ hp_S K L R A p q ∧ ∀ q', q' < q → hp_V n (q' % 16) → ¬ hp_S K L R A p q') ∧
  (¬ (p / 16 < c ∧ hp_V n (p % 16)) → A p = -1)
section HC
variable {n c : Nat} {K L R A : Nat → Int32} {p q r : Nat}
theorem hs_r : hp_S K L R A p p := by
  by_cases h : hp_a K p
  · exact Or.inl ⟨h, h, rfl⟩
  · exact Or.inr ⟨h, rfl, rfl, Or.inr rfl⟩
theorem hs_k (h : hp_a K p) (e : K (p / 16) = K (q / 16)) : hp_a K q := by
  unfold hp_a at h ⊢
  rw [← e]
  exact h
theorem hs_s (h : hp_S K L R A p q) : hp_S K L R A q p := by
  rcases h with ⟨a, b, c⟩ | ⟨a, b, c, d⟩
  · exact Or.inl ⟨b, a, c.symm⟩
  · refine Or.inr ⟨fun z => a (hs_k z b.symm), b.symm, c.symm, ?_⟩
    rcases d with d | d
    · exact Or.inl (b.symm.trans d)
    · exact Or.inr d.symm
theorem hs_t (h : hp_S K L R A p q) (g : hp_S K L R A q r) : hp_S K L R A p r := by
  rcases h with ⟨a, b, c⟩ | ⟨a, b, c, d⟩
  · rcases g with ⟨a', b', c'⟩ | ⟨a', b', c', d'⟩
    · exact Or.inl ⟨a, b', c.trans c'⟩
    · exact absurd b a'
  · rcases g with ⟨a', b', c'⟩ | ⟨a', b', c', d'⟩
    · exact absurd (hs_k a' b.symm) a
    · refine Or.inr ⟨a, b.trans b', c.trans c', ?_⟩
      rcases d with d | d
      · exact Or.inl d
      · rcases d' with e | e
        · exact Or.inl (b.trans e)
        · exact Or.inr (d.trans e)
theorem hw_na {h : Nat} (na : ¬ (K h = 0 ∨ K h = 1)) (W : hp_W n c K L R) (hc : h < c) : n ≤ h ∧ (∃ l, l < h ∧ L h = nI l) ∧ ((K h = 5 ∧ R h = -1) ∨ ((K h = 2 ∨ K h = 3 ∨ K h = 4) ∧ ∃ r, r < h ∧ R h = nI r)) := by
  rcases W.2.2.2 h hc with ⟨_, b, _⟩ | ⟨a, b | b | b⟩
  · exact absurd (Or.inl b) na
  · exact absurd (Or.inr b.1) na
  · exact ⟨a, b.2.1, Or.inl ⟨b.1, b.2.2⟩⟩
  · exact ⟨a, b.2.1, Or.inr ⟨b.1, b.2.2⟩⟩
theorem hw_lp (W : hp_W n c K L R) (hp : p / 16 < c) (na : ¬ hp_a K p) : ∃ l, l < p / 16 ∧ L (p / 16) = nI l ∧ hp_l L p = l * 16 + p % 16 := by
  obtain ⟨_, ⟨l, h1, h2⟩, _⟩ := hw_na na W hp
  have := W.2.2.1
  refine ⟨l, h1, h2, ?_⟩
  unfold hp_l
  rw [h2, nI_clamp (by omega)]
theorem hw_rp (W : hp_W n c K L R) (hp : p / 16 < c) (na : ¬ hp_a K p) (n5 : ¬ K (p / 16) = 5) : ∃ l, l < p / 16 ∧ R (p / 16) = nI l ∧ hp_l R p = l * 16 + p % 16 := by
  obtain ⟨_, _, h3⟩ := hw_na na W hp
  have := W.2.2.1
  rcases h3 with h3 | ⟨_, l, h1, h2⟩
  · exact absurd h3.1 n5
  refine ⟨l, h1, h2, ?_⟩
  unfold hp_l
  rw [h2, nI_clamp (by omega)]
theorem hw_c {K' L' R' : Nat → Int32} (W : hp_W n c K L R) (e : ∀ h, h < c → K' h = K h ∧ L' h = L h ∧ R' h = R h) : hp_W n c K' L' R' := by
  refine ⟨W.1, W.2.1, W.2.2.1, fun h hc => ?_⟩
  obtain ⟨e1, e2, e3⟩ := e h hc
  unfold hp_T
  rw [e1, e2, e3]
  exact W.2.2.2 h hc
theorem hs_c {K' L' R' A' : Nat → Int32} (W : hp_W n c K L R) (e : ∀ h, h < c → K' h = K h ∧ L' h = L h ∧ R' h = R h) (hp : p / 16 < c) (hq : q ≤ p) (ea : ∀ i, i < p → A' i = A i) (h : hp_S K L R A p q) : hp_S K' L' R' A' p q := by
  have hq' : q / 16 < c := by omega
  obtain ⟨kp, lp, rp⟩ := e _ hp
  obtain ⟨kq, lq, rq⟩ := e _ hq'
  have el : ∀ x, x / 16 < c → hp_l L' x = hp_l L x := fun x hx => by unfold hp_l; rw [(e _ hx).2.1]
  have er : ∀ x, x / 16 < c → hp_l R' x = hp_l R x := fun x hx => by unfold hp_l; rw [(e _ hx).2.2]
  rcases h with ⟨a, b, d⟩ | ⟨a, b, d, f⟩
  · refine Or.inl ⟨?_, ?_, ?_⟩
    · unfold hp_a at a ⊢
      rw [kp]; exact a
    · unfold hp_a at b ⊢
      rw [kq]; exact b
    · unfold hp_n at d ⊢
      rw [kp, kq, lp, lq]; exact d
  · have aq : ¬ hp_a K q := fun z => a (hs_k z b.symm)
    obtain ⟨l1, h1, _, e1⟩ := hw_lp W hp a
    obtain ⟨l2, h2, _, e2⟩ := hw_lp W hq' aq
    refine Or.inr ⟨?_, by rw [kp, kq]; exact b, ?_, ?_⟩
    · unfold hp_a at a ⊢
      rw [kp]; exact a
    · rw [el p hp, el q hq', ea _ (by rw [e1]; omega), ea _ (by rw [e2]; omega)]
      exact d
    · by_cases h5 : K (p / 16) = 5
      · exact Or.inl (kp.trans h5)
      · rcases f with f | f
        · exact absurd f h5
        · obtain ⟨r1, g1, _, i1⟩ := hw_rp W hp a h5
          obtain ⟨r2, g2, _, i2⟩ := hw_rp W hq' aq (by rw [← b]; exact h5)
          refine Or.inr ?_
          rw [er p hp, er q hq', ea _ (by rw [i1]; omega), ea _ (by rw [i2]; omega)]
          exact f
theorem hq_c {K' L' R' A' : Nat → Int32} {c' : Nat} (W : hp_W n c K L R) (e : ∀ h, h < c → K' h = K h ∧ L' h = L h ∧ R' h = R h) (hc : p / 16 < c' ↔ p / 16 < c) (ea : ∀ i, i ≤ p → A' i = A i) (h : hp_Q n c K L R A p) : hp_Q n c' K' L' R' A' p := by
  refine ⟨fun h1 h2 => ?_, fun h1 => ?_⟩
  · have hp := hc.mp h1
    obtain ⟨q, a, b, d, f, g⟩ := h.1 hp h2
    refine ⟨q, a, by rw [ea p (Nat.le_refl _)]; exact b, d, hs_c W e hp a (fun i hi => ea i (by omega)) f, fun q' h3 h4 h5 => g q' h3 h4 ?_⟩
    exact hs_c (hw_c W e) (fun h hh => ⟨(e h hh).1.symm, (e h hh).2.1.symm, (e h hh).2.2.symm⟩) hp (by omega) (fun i hi => (ea i (by omega)).symm) h5
  · rw [ea p (Nat.le_refl _)]
    exact h.2 (fun z => h1 ⟨hc.mpr z.1, z.2⟩)
/-- what stands below m: the canonical place of a place is its own -/
theorem hc_1 {m : Nat} (C : ∀ p, p < m → hp_Q n c K L R A p) (hp : p < m) (h1 : p / 16 < c) (h2 : hp_V n (p % 16)) : ∃ q, q ≤ p ∧ A p = nI q ∧ q / 16 < c ∧ hp_V n (q % 16) ∧ hp_S K L R A p q ∧ A q = nI q := by
  obtain ⟨q, a, b, d, f, g⟩ := (C p hp).1 h1 h2
  have hq : q / 16 < c := by omega
  refine ⟨q, a, b, hq, d, f, ?_⟩
  obtain ⟨q2, a2, b2, d2, f2, g2⟩ := (C q (by omega)).1 hq d
  by_cases e : q2 < q
  · exact absurd (hs_t f f2) (g q2 e d2)
  · have : q2 = q := by omega
    rw [this] at b2
    exact b2
/-- the next place, given the least place like it -/
theorem hq_s {m : Nat} (W : hp_W n c K L R) (C : ∀ p, p < m → hp_Q n c K L R A p) (h1 : m / 16 < c) (hq : q ≤ m) (hv : hp_V n (q % 16)) (hS : hp_S K L R A m q) (hl : ∀ q', q' < q → hp_V n (q' % 16) → ¬ hp_S K L R A m q') (hvm : hp_V n (m % 16)) : ∀ p, p < m + 1 → hp_Q n c K L R (upd A m (nI q)) p := by
  have ea : ∀ i, i < m → upd A m (nI q) i = A i := fun i hi => pk_un (by omega)
  have e : ∀ h, h < c → K h = K h ∧ L h = L h ∧ R h = R h := fun h _ => ⟨rfl, rfl, rfl⟩
  intro p hp
  by_cases hpm : p < m
  · exact hq_c W e Iff.rfl (fun i hi => ea i (by omega)) (C p hpm)
  · have : p = m := by omega
    subst this
    refine ⟨fun _ _ => ⟨q, hq, pk_us, hv, hs_c W e h1 hq ea hS, fun q' h3 h4 h5 => hl q' h3 h4 ?_⟩, fun z => absurd ⟨h1, hvm⟩ z⟩
    exact hs_c W e h1 (by omega) (fun i hi => (ea i hi).symm) h5
theorem hq_n {m : Nat} (C : ∀ p, p < m → hp_Q n c K L R A p) (ha : A m = -1) (h : ¬ (m / 16 < c ∧ hp_V n (m % 16))) : ∀ p, p < m + 1 → hp_Q n c K L R A p := by
  intro p hp
  by_cases hpm : p < m
  · exact C p hpm
  · have : p = m := by omega
    subst this
    exact ⟨fun a b => absurd ⟨a, b⟩ h, fun _ => ha⟩
/-- an atom's least place is its name's -/
theorem hq_a (W : hp_W n c K L R) (h1 : p / 16 < c) (h2 : hp_V n (p % 16)) (ha : hp_a K p) :
    16 * hp_n K L p ≤ p ∧ hp_V n (16 * hp_n K L p % 16) ∧ hp_S K L R A p (16 * hp_n K L p) ∧ ∀ q', q' < 16 * hp_n K L p → hp_V n (q' % 16) → ¬ hp_S K L R A p q' := by
  have hx : hp_n K L p < n ∧ hp_n K L p ≤ p / 16 := by
    rcases W.2.2.2 _ h1 with ⟨a, b, _⟩ | ⟨a, b⟩
    · unfold hp_n
      rw [if_pos b]
      omega
    · have hk : ¬ K (p / 16) = 0 := by
        rcases b with b | b | ⟨b | b | b, _⟩
        · rw [b.1]; decide
        · rw [b.1]; decide
        · rw [b]; decide
        · rw [b]; decide
        · rw [b]; decide
      unfold hp_n
      rw [if_neg hk]
      have := h2.1
      have := h2.2
      split <;> omega
  have hz : ∀ x, x / 16 < n → x / 16 < c → K (x / 16) = 0 := fun x a b => by
    rcases W.2.2.2 _ b with ⟨_, y, _⟩ | ⟨y, _⟩
    · exact y
    · omega
  have e1 : 16 * hp_n K L p / 16 = hp_n K L p := by omega
  have k1 : K (16 * hp_n K L p / 16) = 0 := hz _ (by omega) (by omega)
  have w1 := W.1
  have nx : ∀ x, K (x / 16) = 0 → hp_n K L x = x / 16 := fun x h => by
    unfold hp_n
    rw [if_pos h]
  refine ⟨by omega, ⟨by omega, by omega⟩, Or.inl ⟨ha, Or.inl k1, ?_⟩, ?_⟩
  · rw [nx _ k1]
    exact e1.symm
  · intro q' hq' _ hS
    have k2 : K (q' / 16) = 0 := hz _ (by omega) (by omega)
    rcases hS with ⟨_, _, z⟩ | ⟨z, _⟩
    · have := nx _ k2
      omega
    · exact z ha
/-- what a scan for a ground term asks of a place -/
def hp_q (K L R A : Nat → Int32) (k u v : Int32) (g : Nat) : Prop := A g = nI g ∧ K (g / 16) = k ∧ A (hp_l L g) = u ∧ (k = 5 ∨ A (hp_l R g) = v)
def hp_f (K L R A : Nat → Int32) (p g : Nat) : Prop := hp_q K L R A (K (p / 16)) (A (hp_l L p)) (A (hp_l R p)) g
theorem hf_S (na : ¬ hp_a K p) (h : hp_f K L R A p q) : hp_S K L R A p q :=
  Or.inr ⟨na, h.2.1.symm, h.2.2.1.symm, h.2.2.2.elim Or.inl (fun z => Or.inr z.symm)⟩
theorem hf_o (na : ¬ hp_a K p) (hA : A q = nI q) (h : hp_S K L R A p q) : hp_f K L R A p q := by
  rcases h with ⟨a, _⟩ | ⟨_, b, d, f⟩
  · exact absurd a na
  · exact ⟨hA, b.symm, d.symm, f.elim Or.inl (fun z => Or.inr z.symm)⟩
theorem hf_t {m : Nat} (C : ∀ p, p < m → hp_Q n c K L R A p) (h1 : m / 16 < c) (na : ¬ hp_a K m) {g : Nat} (hg : ∀ q, q < g → ¬ hp_f K L R A m q) (hq : q < m) (hqg : q < g) (hv : hp_V n (q % 16)) : ¬ hp_S K L R A m q := by
  intro hS
  obtain ⟨q2, a2, _, _, _, s2, e2⟩ := hc_1 C hq (by omega) hv
  exact hg q2 (by omega) (hf_o na e2 (hs_t hS s2))
/-- a scan that finds g first: g is the least place like m; one that finds none: m is -/
theorem hq_f {m g : Nat} (C : ∀ p, p < m → hp_Q n c K L R A p) (hz : ∀ p, m ≤ p → p < 256 → A p = -1) (h1 : m / 16 < c) (na : ¬ hp_a K m) (hg : g < 256) (hf : hp_f K L R A m g) (hl : ∀ q, q < g → ¬ hp_f K L R A m q) :
    g ≤ m ∧ hp_V n (g % 16) ∧ hp_S K L R A m g ∧ ∀ q', q' < g → hp_V n (q' % 16) → ¬ hp_S K L R A m q' := by
  have hgm : g < m := by
    by_cases e : g < m
    · exact e
    · have := hz g (by omega) hg
      rw [hf.1] at this
      exact absurd this (ha_ne1 (by omega))
  have hV : hp_V n (g % 16) := by
    by_cases e : hp_V n (g % 16)
    · exact e
    · have := (C g hgm).2 (fun z => e z.2)
      rw [hf.1] at this
      exact absurd this (ha_ne1 (by omega))
  exact ⟨by omega, hV, hf_S na hf, fun q' a b => hf_t C h1 na hl (by omega) a b⟩
theorem hq_0 {m : Nat} (C : ∀ p, p < m → hp_Q n c K L R A p) (h1 : m / 16 < c) (hm : m < 256) (na : ¬ hp_a K m) (hl : ∀ q, q < 256 → ¬ hp_f K L R A m q) : ∀ q', q' < m → hp_V n (q' % 16) → ¬ hp_S K L R A m q' :=
  fun q' a b => hf_t C h1 na hl a (by omega) b
end HC
end
section
/-! ranks, purely: a set of ground ids learnt in round i over the ranks of the rounds before -/
noncomputable def hp_u (Rk : Nat → Int32) (i : Nat) (D : Nat → Prop) : Nat → Int32 := fun g => @ite _ (Rk g = -1 ∧ D g) (Classical.propDecidable _) (nI (i + 1)) (Rk g)
def hp_H (Rk : Nat → Int32) (i g : Nat) : Prop := ∃ j, j ≤ i ∧ Rk g = nI j
/-- the number of ranked ids below m -/
def hp_k (Rk : Nat → Int32) : Nat → Nat
  | 0 => 0
  | m + 1 => hp_k Rk m + (if Rk m = -1 then 0 else 1)
section HR
variable {Rk : Nat → Int32} {i g m : Nat} {D D' : Nat → Prop}
theorem hu_1 (h : Rk g = -1) (d : D g) : hp_u Rk i D g = nI (i + 1) := if_pos ⟨h, d⟩
theorem hu_2 (h : ¬ D g) : hp_u Rk i D g = Rk g := if_neg (fun z => h z.2)
theorem hu_3 (h : ¬ Rk g = -1) : hp_u Rk i D g = Rk g := if_neg (fun z => h z.1)
theorem hu_e (h : ∀ g, D g ↔ D' g) : hp_u Rk i D = hp_u Rk i D' := by
  have : D = D' := funext fun g => propext (h g)
  rw [this]
theorem hu_0 (h : ∀ g, ¬ D g) : hp_u Rk i D = Rk := funext fun g => hu_2 (h g)
theorem hu_H (hi : i < 1000) : hp_H (hp_u Rk i D) i g ↔ hp_H Rk i g := by
  by_cases h : Rk g = -1
  · by_cases d : D g
    · unfold hp_H
      rw [hu_1 h d, h]
      constructor
      · rintro ⟨j, a, b⟩
        have := ha_eq b (by omega) (by omega)
        omega
      · rintro ⟨j, a, b⟩
        exact absurd b.symm (ha_ne1 (by omega))
    · unfold hp_H
      rw [hu_2 d]
  · unfold hp_H
    rw [hu_3 h]
/-- learning g: already ranked -/
theorem hu_k (hi : i < 1000) (h : ¬ hp_u Rk i D g = -1) : hp_u Rk i (fun x => D x ∨ x = g) = hp_u Rk i D := by
  funext x
  by_cases hx : x = g
  · subst hx
    by_cases h1 : Rk x = -1
    · by_cases d : D x
      · rw [hu_1 h1 d, hu_1 h1 (Or.inl d)]
      · rw [hu_2 d] at h
        exact absurd h1 h
    · rw [hu_3 h1, hu_3 h1]
  · by_cases h1 : Rk x = -1
    · by_cases d : D x
      · rw [hu_1 h1 d, hu_1 h1 (Or.inl d)]
      · rw [hu_2 d, hu_2 (fun z => z.elim d hx)]
    · rw [hu_3 h1, hu_3 h1]
/-- learning g: not yet ranked -/
theorem hu_n (h : hp_u Rk i D g = -1) (hi : i < 1000) : hp_u Rk i (fun x => D x ∨ x = g) = upd (hp_u Rk i D) g (nI (i + 1)) := by
  have hg : Rk g = -1 := by
    by_cases h1 : Rk g = -1
    · exact h1
    · rw [hu_3 h1] at h
      exact h
  funext x
  by_cases hx : x = g
  · subst hx
    rw [pk_us, hu_1 hg (Or.inr rfl)]
  · rw [pk_un hx]
    by_cases h1 : Rk x = -1
    · by_cases d : D x
      · rw [hu_1 h1 d, hu_1 h1 (Or.inl d)]
      · rw [hu_2 d, hu_2 (fun z => z.elim d hx)]
    · rw [hu_3 h1, hu_3 h1]
theorem hk_le : hp_k Rk m ≤ m := by
  induction m with
  | zero => exact Nat.le_refl _
  | succ m ih =>
    show hp_k Rk m + (if Rk m = -1 then 0 else 1) ≤ m + 1
    split <;> omega
theorem hk_c {Rk' : Nat → Int32} (h : ∀ g, g < m → Rk' g = Rk g) : hp_k Rk' m = hp_k Rk m := by
  induction m with
  | zero => rfl
  | succ m ih =>
    show hp_k Rk' m + (if Rk' m = -1 then 0 else 1) = hp_k Rk m + (if Rk m = -1 then 0 else 1)
    rw [ih (fun g hg => h g (by omega)), h m (by omega)]
theorem hk_u {x : Int32} (hg : g < m) (h : Rk g = -1) (hx : ¬ x = -1) : hp_k (upd Rk g x) m = hp_k Rk m + 1 := by
  induction m with
  | zero => omega
  | succ m ih =>
    show hp_k (upd Rk g x) m + (if upd Rk g x m = -1 then 0 else 1) = hp_k Rk m + (if Rk m = -1 then 0 else 1) + 1
    by_cases e : g = m
    · subst e
      rw [hk_c (m := g) (Rk := Rk) (fun y hy => pk_un (by omega)), pk_us, if_neg hx, if_pos h]
    · rw [ih (by omega), pk_un (by omega)]
      omega
theorem hk_m {Rk' : Nat → Int32} (h : ∀ g, g < m → Rk' g = -1 → Rk g = -1) : hp_k Rk m ≤ hp_k Rk' m := by
  induction m with
  | zero => exact Nat.le_refl _
  | succ m ih =>
    show hp_k Rk m + (if Rk m = -1 then 0 else 1) ≤ hp_k Rk' m + (if Rk' m = -1 then 0 else 1)
    have := ih (fun g hg => h g (by omega))
    by_cases e : Rk' m = -1
    · rw [if_pos e, if_pos (h m (by omega) e)]
      omega
    · rw [if_neg e]
      split <;> omega
/-- equal counts: nothing is new -/
theorem hk_e {Rk' : Nat → Int32} (h : ∀ g, g < m → Rk' g = -1 → Rk g = -1) (he : hp_k Rk' m = hp_k Rk m) : ∀ g, g < m → Rk g = -1 → Rk' g = -1 := by
  induction m with
  | zero => intro g hg; omega
  | succ m ih =>
    have h1 : hp_k Rk m ≤ hp_k Rk' m := hk_m (fun g hg => h g (by omega))
    have he' : hp_k Rk' m + (if Rk' m = -1 then 0 else 1) = hp_k Rk m + (if Rk m = -1 then 0 else 1) := he
    by_cases e : Rk' m = -1
    · rw [if_pos e, if_pos (h m (by omega) e)] at he'
      intro g hg hR
      by_cases hgm : g = m
      · rw [hgm]; exact e
      · exact ih (fun g hg => h g (by omega)) (by omega) g (by omega) hR
    · rw [if_neg e] at he'
      by_cases e2 : Rk m = -1
      · rw [if_pos e2] at he'
        omega
      · rw [if_neg e2] at he'
        intro g hg hR
        by_cases hgm : g = m
        · rw [hgm] at hR
          exact absurd hR e2
        · exact ih (fun g hg => h g (by omega)) (by omega) g (by omega) hR
theorem hu_m (hi : i < 1000) : hp_u Rk i D g = -1 → Rk g = -1 := by
  intro h
  by_cases h1 : Rk g = -1
  · exact h1
  · rw [hu_3 h1] at h
    exact h
theorem hu_s (hi : i < 1000) (hD : ∀ g, D g → g < 256) (he : hp_k (hp_u Rk i D) 256 = hp_k Rk 256) : hp_u Rk i D = Rk := by
  have h := hk_e (m := 256) (Rk := Rk) (Rk' := hp_u Rk i D) (fun g _ => hu_m hi) he
  funext g
  by_cases h1 : Rk g = -1
  · by_cases d : D g
    · rw [h g (hD g d) h1, h1]
    · exact hu_2 d
  · exact hu_3 h1
end HR
/-- the rounds: what round i derives is a set over the ranks at its head -/
noncomputable def hp_it (R0 : Nat → Int32) (D : (Nat → Int32) → Nat → Nat → Prop) : Nat → Nat → Int32
  | 0 => R0
  | i + 1 => hp_u (hp_it R0 D i) i (D (hp_it R0 D i) i)
theorem hp_stop (R0 : Nat → Int32) (D : (Nat → Int32) → Nat → Nat → Prop) (hD : ∀ Rk i g, D Rk i g → g < 256) :
    ∃ f, f ≤ 256 ∧ hp_k (hp_it R0 D (f + 1)) 256 = hp_k (hp_it R0 D f) 256 ∧ ∀ j, j < f → hp_k (hp_it R0 D j) 256 < hp_k (hp_it R0 D (j + 1)) 256 := by
  have mono : ∀ j, j < 1000 → hp_k (hp_it R0 D j) 256 ≤ hp_k (hp_it R0 D (j + 1)) 256 := fun j hj =>
    hk_m (fun g _ h => hu_m (Rk := hp_it R0 D j) (D := D (hp_it R0 D j) j) hj h)
  have ex : ∃ f, f ≤ 256 ∧ hp_k (hp_it R0 D (f + 1)) 256 = hp_k (hp_it R0 D f) 256 := by
    apply Classical.byContradiction
    intro no
    have gr : ∀ j, j ≤ 257 → j ≤ hp_k (hp_it R0 D j) 256 := by
      intro j
      induction j with
      | zero => intro _; omega
      | succ j ih =>
        intro hj
        have h1 := ih (by omega)
        have h2 := mono j (by omega)
        have h3 : ¬ hp_k (hp_it R0 D (j + 1)) 256 = hp_k (hp_it R0 D j) 256 := fun z => no ⟨j, by omega, z⟩
        omega
    have h1 := gr 257 (by omega)
    have h2 : hp_k (hp_it R0 D 257) 256 ≤ 256 := hk_le
    omega
  obtain ⟨f, ⟨a, b⟩, l⟩ := pk_least (fun f => f ≤ 256 ∧ hp_k (hp_it R0 D (f + 1)) 256 = hp_k (hp_it R0 D f) 256) ex
  refine ⟨f, a, b, fun j hj => ?_⟩
  have h1 := mono j (by omega)
  have h2 : ¬ hp_k (hp_it R0 D (j + 1)) 256 = hp_k (hp_it R0 D j) 256 := fun z => l j hj ⟨by omega, z⟩
  omega
end
section
/-! what a round derives -/
def hp_i (A : Nat → Int32) (p : Nat) : Nat := (A p).toNatClampNeg
def hp_E (K L R A Rk : Nat → Int32) (i t g : Nat) : Prop :=
  (K (t / 16) = 2 ∧ (A (hp_l L t) = nI g ∨ A (hp_l R t) = nI g)) ∨
  (K (t / 16) = 3 ∧ A (hp_l L t) = nI g ∧ hp_H Rk i (hp_i A (hp_l R t))) ∨
  (K (t / 16) = 4 ∧ A (hp_l L t) = nI g ∧ K (hp_i A (hp_l R t) / 16) = 5 ∧ hp_H Rk i (hp_i A (hp_l L (hp_i A (hp_l R t)))))
def hp_m (A Rk : Nat → Int32) (i : Nat) (x : Int32) (s : Nat) : Prop := x = -1 ∨ hp_H Rk i (hp_i A (x.toNatClampNeg * 16 + s))
def hp_F (n : Nat) (A r0 r1 rc Rk : Nat → Int32) (i r s g : Nat) : Prop :=
  hp_V n s ∧ A ((rc r).toNatClampNeg * 16 + s) = nI g ∧ hp_m A Rk i (r0 r) s ∧ hp_m A Rk i (r1 r) s
def hp_c (K L R A Rk : Nat → Int32) (i g : Nat) : Prop :=
  A g = nI g ∧ ¬ hp_a K g ∧ hp_H Rk i (hp_i A (hp_l L g)) ∧ (K (g / 16) = 5 ∨ hp_H Rk i (hp_i A (hp_l R g)))
def hp_D (n nr : Nat) (K L R A r0 r1 rc Rk : Nat → Int32) (i g : Nat) : Prop :=
  g < 256 ∧ A g = nI g ∧ (hp_c K L R A Rk i g ∨ (∃ t, t < 256 ∧ A t = nI t ∧ hp_H Rk i t ∧ hp_E K L R A Rk i t g) ∨
    ∃ r s, r < nr ∧ s < 16 ∧ hp_F n A r0 r1 rc Rk i r s g)
section HD
variable {n c : Nat} {K L R A Rk : Nat → Int32} {t i : Nat}
theorem hc_v (C : ∀ p, p < 256 → hp_Q n c K L R A p) (ht : t < 256) (h : ¬ A t = -1) : t / 16 < c ∧ hp_V n (t % 16) := by
  by_cases e : t / 16 < c ∧ hp_V n (t % 16)
  · exact e
  · exact absurd ((C t ht).2 e) h
theorem hc_g (C : ∀ p, p < 256 → hp_Q n c K L R A p) (ht : t < 256) (h : A t = nI t) : t / 16 < c ∧ hp_V n (t % 16) :=
  hc_v C ht (by rw [h]; exact ha_ne1 (by omega))
theorem hc_p (W : hp_W n c K L R) (C : ∀ p, p < 256 → hp_Q n c K L R A p) (h : t / 16 < c ∧ hp_V n (t % 16)) : ∃ x, x < 256 ∧ A t = nI x ∧ A x = nI x ∧ hp_i A t = x := by
  have := W.2.2.1
  obtain ⟨q, a, b, _, _, _, g⟩ := hc_1 C (show t < 256 by omega) h.1 h.2
  refine ⟨q, by omega, b, g, ?_⟩
  unfold hp_i
  rw [b, nI_clamp (by omega)]
theorem hc_l (W : hp_W n c K L R) (C : ∀ p, p < 256 → hp_Q n c K L R A p) (h : t / 16 < c ∧ hp_V n (t % 16)) (na : ¬ hp_a K t) :
    ∃ l x, l < 16 ∧ L (t / 16) = nI l ∧ hp_l L t = l * 16 + t % 16 ∧ x < 256 ∧ A (hp_l L t) = nI x ∧ A x = nI x ∧ hp_i A (hp_l L t) = x := by
  have := W.2.2.1
  obtain ⟨l, a, b, e⟩ := hw_lp W h.1 na
  have h1 : hp_l L t / 16 = l := by omega
  have h2 : hp_l L t % 16 = t % 16 := by omega
  obtain ⟨x, x1, x2, x3, x4⟩ := hc_p W C (t := hp_l L t) ⟨by omega, by rw [h2]; exact h.2⟩
  exact ⟨l, x, by omega, b, e, x1, x2, x3, x4⟩
theorem hc_r (W : hp_W n c K L R) (C : ∀ p, p < 256 → hp_Q n c K L R A p) (h : t / 16 < c ∧ hp_V n (t % 16)) (na : ¬ hp_a K t) (n5 : ¬ K (t / 16) = 5) :
    ∃ l x, l < 16 ∧ R (t / 16) = nI l ∧ hp_l R t = l * 16 + t % 16 ∧ x < 256 ∧ A (hp_l R t) = nI x ∧ A x = nI x ∧ hp_i A (hp_l R t) = x := by
  have := W.2.2.1
  obtain ⟨l, a, b, e⟩ := hw_rp W h.1 na n5
  have h1 : hp_l R t / 16 = l := by omega
  have h2 : hp_l R t % 16 = t % 16 := by omega
  obtain ⟨x, x1, x2, x3, x4⟩ := hc_p W C (t := hp_l R t) ⟨by omega, by rw [h2]; exact h.2⟩
  exact ⟨l, x, by omega, b, e, x1, x2, x3, x4⟩
theorem hn_2 (h : K (t / 16) = 2) : ¬ hp_a K t := by
  unfold hp_a
  rw [h]
  decide
theorem hn_3 (h : K (t / 16) = 3) : ¬ hp_a K t := by
  unfold hp_a
  rw [h]
  decide
theorem hn_4 (h : K (t / 16) = 4) : ¬ hp_a K t := by
  unfold hp_a
  rw [h]
  decide
theorem hn_5 (h : K (t / 16) = 5) : ¬ hp_a K t := by
  unfold hp_a
  rw [h]
  decide
/-- all ranked ids are ground ids, their ranks at most i -/
def hp_G (A Rk : Nat → Int32) (i : Nat) : Prop := ∀ g, g < 256 → Rk g = -1 ∨ (A g = nI g ∧ ∃ j, j ≤ i ∧ Rk g = nI j)
theorem hg_s {D : Nat → Prop} (hD : ∀ g, D g → A g = nI g) (h : hp_G A Rk i) : hp_G A (hp_u Rk i D) (i + 1) := by
  intro g hg
  by_cases h1 : Rk g = -1
  · by_cases d : D g
    · exact Or.inr ⟨hD g d, i + 1, Nat.le_refl _, hu_1 h1 d⟩
    · rw [hu_2 d]
      exact Or.inl h1
  · rw [hu_3 h1]
    rcases h g hg with a | ⟨a, j, b, e⟩
    · exact Or.inl a
    · exact Or.inr ⟨a, j, by omega, e⟩
end HD
end
section
/-! the set that X has learnt in the midst of a round -/
def hp_X (n : Nat) (K L R A r0 r1 rc Rk : Nat → Int32) (i mc mt r s g : Nat) : Prop :=
  g < 256 ∧ ((g < mc ∧ hp_c K L R A Rk i g) ∨ (∃ t, t < mt ∧ A t = nI t ∧ hp_H Rk i t ∧ hp_E K L R A Rk i t g) ∨
    ∃ r' s', (r' < r ∨ (r' = r ∧ s' < s)) ∧ s' < 16 ∧ hp_F n A r0 r1 rc Rk i r' s' g)
section HX
variable {n c nr : Nat} {K L R A r0 r1 rc Rk : Nat → Int32} {i mc mt r s g a b : Nat}
theorem hx_0 : ¬ hp_X n K L R A r0 r1 rc Rk i 0 0 0 0 g := by
  rintro ⟨_, ⟨h, _⟩ | ⟨t, h, _⟩ | ⟨r', s', h, _⟩⟩
  · omega
  · omega
  · omega
theorem hx_c1 (hm : mc < 256) (h : hp_c K L R A Rk i mc) : hp_X n K L R A r0 r1 rc Rk i (mc + 1) mt r s g ↔ hp_X n K L R A r0 r1 rc Rk i mc mt r s g ∨ g = mc := by
  constructor
  · rintro ⟨x, ⟨y, z⟩ | y⟩
    · by_cases e : g = mc
      · exact Or.inr e
      · exact Or.inl ⟨x, Or.inl ⟨by omega, z⟩⟩
    · exact Or.inl ⟨x, Or.inr y⟩
  · rintro (⟨x, ⟨y, z⟩ | y⟩ | e)
    · exact ⟨x, Or.inl ⟨by omega, z⟩⟩
    · exact ⟨x, Or.inr y⟩
    · subst e
      exact ⟨hm, Or.inl ⟨by omega, h⟩⟩
theorem hx_c0 (h : ¬ hp_c K L R A Rk i mc) : hp_X n K L R A r0 r1 rc Rk i (mc + 1) mt r s g ↔ hp_X n K L R A r0 r1 rc Rk i mc mt r s g := by
  constructor
  · rintro ⟨x, ⟨y, z⟩ | y⟩
    · by_cases e : g = mc
      · subst e
        exact absurd z h
      · exact ⟨x, Or.inl ⟨by omega, z⟩⟩
    · exact ⟨x, Or.inr y⟩
  · rintro ⟨x, ⟨y, z⟩ | y⟩
    · exact ⟨x, Or.inl ⟨by omega, z⟩⟩
    · exact ⟨x, Or.inr y⟩
/-- the next t of takeApart: what it gives is P -/
theorem hx_t (P : Nat → Prop) (hP : ∀ g, g < 256 → ((A mt = nI mt ∧ hp_H Rk i mt ∧ hp_E K L R A Rk i mt g) ↔ P g)) (hb : ∀ g, P g → g < 256) : hp_X n K L R A r0 r1 rc Rk i mc (mt + 1) r s g ↔ hp_X n K L R A r0 r1 rc Rk i mc mt r s g ∨ P g := by
  constructor
  · rintro ⟨x, y | ⟨t, h, z⟩ | y⟩
    · exact Or.inl ⟨x, Or.inl y⟩
    · by_cases e : t = mt
      · subst e
        exact Or.inr ((hP g x).mp z)
      · exact Or.inl ⟨x, Or.inr (Or.inl ⟨t, by omega, z⟩)⟩
    · exact Or.inl ⟨x, Or.inr (Or.inr y)⟩
  · rintro (⟨x, y | ⟨t, h, z⟩ | y⟩ | e)
    · exact ⟨x, Or.inl y⟩
    · exact ⟨x, Or.inr (Or.inl ⟨t, by omega, z⟩)⟩
    · exact ⟨x, Or.inr (Or.inr y)⟩
    · exact ⟨hb g e, Or.inr (Or.inl ⟨mt, by omega, (hP g (hb g e)).mpr e⟩)⟩
theorem hx_t0 (h : ∀ g, g < 256 → ¬ (A mt = nI mt ∧ hp_H Rk i mt ∧ hp_E K L R A Rk i mt g)) : hp_X n K L R A r0 r1 rc Rk i mc (mt + 1) r s g ↔ hp_X n K L R A r0 r1 rc Rk i mc mt r s g := by
  have := hx_t (n := n) (K := K) (L := L) (R := R) (A := A) (r0 := r0) (r1 := r1) (rc := rc) (Rk := Rk) (i := i) (mc := mc) (mt := mt) (r := r) (s := s) (g := g) (fun _ => False) (fun g hg => ⟨fun z => h g hg z, fun z => z.elim⟩) (fun g z => z.elim)
  rw [this]
  exact ⟨fun z => z.elim id (fun y => y.elim), Or.inl⟩
/-- the next code of a rule: what it gives is P -/
theorem hx_r (P : Nat → Prop) (hs : s < 16) (hP : ∀ g, g < 256 → (hp_F n A r0 r1 rc Rk i r s g ↔ P g)) (hb : ∀ g, P g → g < 256) : hp_X n K L R A r0 r1 rc Rk i mc mt r (s + 1) g ↔ hp_X n K L R A r0 r1 rc Rk i mc mt r s g ∨ P g := by
  constructor
  · rintro ⟨x, y | y | ⟨r', s', h, h16, z⟩⟩
    · exact Or.inl ⟨x, Or.inl y⟩
    · exact Or.inl ⟨x, Or.inr (Or.inl y)⟩
    · by_cases e : r' = r ∧ s' = s
      · obtain ⟨rfl, rfl⟩ := e
        exact Or.inr ((hP g x).mp z)
      · exact Or.inl ⟨x, Or.inr (Or.inr ⟨r', s', by omega, h16, z⟩)⟩
  · rintro (⟨x, y | y | ⟨r', s', h, h16, z⟩⟩ | e)
    · exact ⟨x, Or.inl y⟩
    · exact ⟨x, Or.inr (Or.inl y)⟩
    · exact ⟨x, Or.inr (Or.inr ⟨r', s', by omega, h16, z⟩)⟩
    · exact ⟨hb g e, Or.inr (Or.inr ⟨r, s, by omega, hs, (hP g (hb g e)).mpr e⟩)⟩
/-- codes that are none add nothing -/
theorem hx_rs {s2 : Nat} (h1 : s ≤ s2) (h : ∀ x, s ≤ x → x < s2 → x < 16 → ¬ hp_V n x) : hp_X n K L R A r0 r1 rc Rk i mc mt r s2 g ↔ hp_X n K L R A r0 r1 rc Rk i mc mt r s g := by
  constructor
  · rintro ⟨x, y | y | ⟨r', s', hh, h16, z⟩⟩
    · exact ⟨x, Or.inl y⟩
    · exact ⟨x, Or.inr (Or.inl y)⟩
    · by_cases e : r' = r ∧ s ≤ s'
      · exact absurd z.1 (h s' e.2 (by omega) h16)
      · exact ⟨x, Or.inr (Or.inr ⟨r', s', by omega, h16, z⟩)⟩
  · rintro ⟨x, y | y | ⟨r', s', hh, h16, z⟩⟩
    · exact ⟨x, Or.inl y⟩
    · exact ⟨x, Or.inr (Or.inl y)⟩
    · exact ⟨x, Or.inr (Or.inr ⟨r', s', by omega, h16, z⟩)⟩
theorem hx_rn (h : ∀ x, s ≤ x → x < 16 → ¬ hp_V n x) : hp_X n K L R A r0 r1 rc Rk i mc mt (r + 1) 0 g ↔ hp_X n K L R A r0 r1 rc Rk i mc mt r s g := by
  constructor
  · rintro ⟨x, y | y | ⟨r', s', hh, h16, z⟩⟩
    · exact ⟨x, Or.inl y⟩
    · exact ⟨x, Or.inr (Or.inl y)⟩
    · by_cases e : r' = r ∧ s ≤ s'
      · exact absurd z.1 (h s' e.2 h16)
      · exact ⟨x, Or.inr (Or.inr ⟨r', s', by omega, h16, z⟩)⟩
  · rintro ⟨x, y | y | ⟨r', s', hh, h16, z⟩⟩
    · exact ⟨x, Or.inl y⟩
    · exact ⟨x, Or.inr (Or.inl y)⟩
    · exact ⟨x, Or.inr (Or.inr ⟨r', s', by omega, h16, z⟩)⟩
/-- the rules' terms are handles -/
def hp_R (c nr : Nat) (r0 r1 rc : Nat → Int32) : Prop := ∀ r, r < nr → (r0 r = -1 ∨ ∃ h, h < c ∧ r0 r = nI h) ∧ (r1 r = -1 ∨ ∃ h, h < c ∧ r1 r = nI h) ∧ ∃ h, h < c ∧ rc r = nI h
theorem hE_g (W : hp_W n c K L R) (C : ∀ p, p < 256 → hp_Q n c K L R A p) {t : Nat} (ht : t < 256) (hA : A t = nI t) (hg : g < 256) (h : hp_E K L R A Rk i t g) : A g = nI g := by
  have hv := hc_g C ht hA
  have key : ∀ na : ¬ hp_a K t, A (hp_l L t) = nI g → A g = nI g := fun na e => by
    obtain ⟨l, x, _, _, _, x1, x2, x3, _⟩ := hc_l W C hv na
    have := ha_eq (x2.symm.trans e) (by omega) (by omega)
    subst this
    exact x3
  rcases h with ⟨k, e | e⟩ | ⟨k, e, _⟩ | ⟨k, e, _⟩
  · exact key (hn_2 k) e
  · obtain ⟨l, x, _, _, _, x1, x2, x3, _⟩ := hc_r W C hv (hn_2 k) (by rw [k]; decide)
    have := ha_eq (x2.symm.trans e) (by omega) (by omega)
    subst this
    exact x3
  · exact key (hn_3 k) e
  · exact key (hn_4 k) e
theorem hF_g (W : hp_W n c K L R) (C : ∀ p, p < 256 → hp_Q n c K L R A p) (hR : hp_R c nr r0 r1 rc) (hr : r < nr) (hs : s < 16) (hg : g < 256) (h : hp_F n A r0 r1 rc Rk i r s g) : A g = nI g := by
  obtain ⟨h0, hh, e⟩ := (hR r hr).2.2
  have w := W.2.2.1
  have h2 := h.2.1
  rw [e, nI_clamp (by omega)] at h2
  have e1 : (h0 * 16 + s) / 16 = h0 := by omega
  have e2 : (h0 * 16 + s) % 16 = s := by omega
  obtain ⟨x, x1, x2, x3, _⟩ := hc_p W C (t := h0 * 16 + s) ⟨by omega, by rw [e2]; exact h.1⟩
  have := ha_eq (x2.symm.trans h2) (by omega) (by omega)
  subst this
  exact x3
theorem hx_D (W : hp_W n c K L R) (C : ∀ p, p < 256 → hp_Q n c K L R A p) (hR : hp_R c nr r0 r1 rc) : hp_X n K L R A r0 r1 rc Rk i 256 256 nr 0 g ↔ hp_D n nr K L R A r0 r1 rc Rk i g := by
  constructor
  · rintro ⟨x, ⟨_, y⟩ | ⟨t, h, y⟩ | ⟨r', s', hh, h16, z⟩⟩
    · exact ⟨x, y.1, Or.inl y⟩
    · exact ⟨x, hE_g W C h y.1 x y.2.2, Or.inr (Or.inl ⟨t, h, y⟩)⟩
    · have hr : r' < nr := by omega
      exact ⟨x, hF_g W C hR hr h16 x z, Or.inr (Or.inr ⟨r', s', hr, h16, z⟩)⟩
  · rintro ⟨x, _, y | ⟨t, h, y⟩ | ⟨r', s', hh, h16, z⟩⟩
    · exact ⟨x, Or.inl ⟨x, y⟩⟩
    · exact ⟨x, Or.inr (Or.inl ⟨t, h, y⟩)⟩
    · exact ⟨x, Or.inr (Or.inr ⟨r', s', by omega, h16, z⟩)⟩
end HX
end
section
/-! the variables in a term's tree -/
def hp_mv (c : Nat) (K L R M : Nat → Int32) (h : Nat) : Int32 :=
  if c ≤ h ∨ K h = 0 then 0 else if K h = 1 then (if L h = 0 then 1 else 2) else if K h = 5 then M (L h).toNatClampNeg else M (L h).toNatClampNeg ||| M (R h).toNatClampNeg
def hp_M (c : Nat) (K L R M : Nat → Int32) : Prop := ∀ h, h < 16 → M h = hp_mv c K L R M h
section HM
variable {n c : Nat} {K L R M : Nat → Int32} {h : Nat}
theorem hm_c {c' : Nat} {K' L' R' M' : Nat → Int32} (W : hp_W n c' K' L' R') (hc : c ≤ h ↔ c' ≤ h) (e : h < c' → K' h = K h ∧ L' h = L h ∧ R' h = R h) (em : ∀ x, x < h → M' x = M x) : hp_mv c' K' L' R' M' h = hp_mv c K L R M h := by
  have w := W.2.2.1
  unfold hp_mv
  by_cases hh : c' ≤ h
  · rw [if_pos (Or.inl hh), if_pos (Or.inl (hc.mpr hh))]
  · obtain ⟨e1, e2, e3⟩ := e (by omega)
    have hh' : ¬ c ≤ h := fun z => hh (hc.mp z)
    by_cases k0 : K h = 0
    · rw [if_pos (Or.inr k0), if_pos (Or.inr (e1.trans k0))]
    · have n1 : ¬ (c ≤ h ∨ K h = 0) := fun z => z.elim hh' k0
      have n2 : ¬ (c' ≤ h ∨ K' h = 0) := fun z => z.elim hh (by rw [e1]; exact k0)
      rw [if_neg n1, if_neg n2, e1, e2, e3]
      by_cases k1 : K h = 1
      · rw [if_pos k1, if_pos k1]
      · rw [if_neg k1, if_neg k1]
        obtain ⟨_, ⟨l, hl, el⟩, h5⟩ := hw_na (K := K') (h := h) (by rw [e1]; exact fun z => z.elim k0 k1) W (by omega)
        rw [e2] at el
        by_cases k5 : K h = 5
        · rw [if_pos k5, if_pos k5, el, nI_clamp (by omega), em l hl]
        · rw [if_neg k5, if_neg k5]
          rcases h5 with h5 | ⟨_, r, hr, er⟩
          · exact absurd (e1.symm.trans h5.1) k5
          · rw [e3] at er
            rw [el, er, nI_clamp (by omega), nI_clamp (by omega), em l hl, em r hr]
end HM
end
section
/-! a new term: what stands before X writes its ground ids, and behind -/
def hp_C (n c : Nat) (K L R A : Nat → Int32) : Prop := ∀ p, p < 256 → hp_Q n c K L R A p
/-- what a scan for a ground term answers -/
def hp_r (K L R A : Nat → Int32) (k u v r : Int32) : Prop :=
  (∃ g, g < 256 ∧ r = nI g ∧ hp_q K L R A k u v g ∧ ∀ q, q < g → ¬ hp_q K L R A k u v q) ∨ (r = -1 ∧ ∀ q, q < 256 → ¬ hp_q K L R A k u v q)
section HA
variable {n c : Nat} {K L R A M : Nat → Int32} {k a b : Int32}
theorem hr_ex (k u v : Int32) : ∃ r, hp_r K L R A k u v r := by
  by_cases h : ∃ g, g < 256 ∧ hp_q K L R A k u v g
  · obtain ⟨g, ⟨h1, h2⟩, hl⟩ := pk_least (fun g => g < 256 ∧ hp_q K L R A k u v g) h
    exact ⟨nI g, Or.inl ⟨g, h1, rfl, h2, fun q hq z => hl q hq ⟨by omega, z⟩⟩⟩
  · exact ⟨-1, Or.inr ⟨rfl, fun q hq z => h ⟨q, hq, z⟩⟩⟩
/-- the conditions on a new term's fields -/
def hp_N (n c : Nat) (k a b : Int32) : Prop :=
  (c < n ∧ k = 0 ∧ a = nI c ∧ b = -1) ∨ (n ≤ c ∧ ((k = 1 ∧ (a = 0 ∨ a = 1) ∧ b = -1) ∨ (k = 5 ∧ (∃ l, l < c ∧ a = nI l) ∧ b = -1) ∨
    ((k = 2 ∨ k = 3 ∨ k = 4) ∧ (∃ l, l < c ∧ a = nI l) ∧ ∃ r, r < c ∧ b = nI r)))
theorem hw_x (W : hp_W n c K L R) (hc : c < 16) (h : hp_N n c k a b) : hp_W n (c + 1) (upd K c k) (upd L c a) (upd R c b) := by
  refine ⟨W.1, W.2.1, by omega, fun x hx => ?_⟩
  by_cases e : x = c
  · subst e
    unfold hp_T
    rw [pk_us, pk_us, pk_us]
    exact h
  · unfold hp_T
    rw [pk_un e, pk_un e, pk_un e]
    exact W.2.2.2 x (by omega)
theorem hq_x (W : hp_W n c K L R) (C : hp_C n c K L R A) : ∀ p, p < c * 16 → hp_Q n (c + 1) (upd K c k) (upd L c a) (upd R c b) A p := by
  intro p hp
  have w := W.2.2.1
  exact hq_c W (fun h hh => ⟨pk_un (by omega), pk_un (by omega), pk_un (by omega)⟩) (by omega) (fun _ _ => rfl) (C p (by omega))
theorem hq_y (W : hp_W n c K L R) (C : hp_C n c K L R A) : ∀ p, c * 16 ≤ p → p < 256 → A p = -1 := by
  intro p hp h2
  exact (C p h2).2 (fun z => by have := z.1; omega)
theorem hq_z (hc : c < 16) (C : ∀ p, p < c * 16 + 16 → hp_Q n (c + 1) K L R A p) (hz : ∀ p, c * 16 + 16 ≤ p → p < 256 → A p = -1) : hp_C n (c + 1) K L R A := by
  intro p hp
  by_cases h : p < c * 16 + 16
  · exact C p h
  · exact ⟨fun z => by omega, fun _ => hz p (by omega) hp⟩
/-- codes that are none: the places stay as they are -/
theorem hq_k {m m2 : Nat} (C : ∀ p, p < m → hp_Q n c K L R A p) (hz : ∀ p, m ≤ p → p < 256 → A p = -1) (hm : m ≤ m2) (h2 : m2 ≤ 256) (h : ∀ p, m ≤ p → p < m2 → ¬ hp_V n (p % 16)) : ∀ p, p < m2 → hp_Q n c K L R A p := by
  intro p hp
  by_cases e : p < m
  · exact C p e
  · exact ⟨fun _ z => absurd z (h p (by omega) hp), fun _ => hz p (by omega) (by omega)⟩
theorem hm_x (W : hp_W n c K L R) (hc : c < 16) (h : hp_N n c k a b) (hM : hp_M c K L R M) {v : Int32} (hv : v = hp_mv (c + 1) (upd K c k) (upd L c a) (upd R c b) M c) : hp_M (c + 1) (upd K c k) (upd L c a) (upd R c b) (upd M c v) := by
  intro x hx
  have W' := hw_x W hc h
  by_cases e : x = c
  · subst e
    rw [pk_us, hv]
    exact (hm_c (c := x + 1) W' Iff.rfl (fun _ => ⟨rfl, rfl, rfl⟩) (fun y hy => pk_un (by omega))).symm
  · rw [pk_un e, hM x hx]
    by_cases e2 : x < c
    · exact (hm_c (c := c) W' (by omega) (fun _ => ⟨pk_un e, pk_un e, pk_un e⟩) (fun y hy => pk_un (by omega))).symm
    · unfold hp_mv
      rw [if_pos (Or.inl (by omega)), if_pos (Or.inl (by omega))]
end HA
/-! the names of a new object -/
def hp_k0 : Nat → Nat → Int32
  | 0 => fun _ => 0
  | i + 1 => upd (hp_k0 i) i 0
def hp_l0 : Nat → Nat → Int32
  | 0 => fun _ => 0
  | i + 1 => upd (hp_l0 i) i (nI i)
def hp_r0 : Nat → Nat → Int32
  | 0 => fun _ => 0
  | i + 1 => upd (hp_r0 i) i (-1)
theorem hw_0 {n : Nat} (h2 : 2 ≤ n) (h4 : n ≤ 4) : ∀ i, i ≤ n → hp_W n i (hp_k0 i) (hp_l0 i) (hp_r0 i) := by
  intro i
  induction i with
  | zero => exact fun _ => ⟨h2, h4, by omega, fun h hh => absurd hh (Nat.not_lt_zero h)⟩
  | succ i ih => exact fun hi => hw_x (ih (by omega)) (by omega) (Or.inl ⟨by omega, rfl, rfl, rfl⟩)
end
section
/-! the relation -/
def hp_J (n tm pm c ne nr ns : Nat) (ph kn : Int32) (K L R M A Z E r0 r1 rc F Ym Yc Yk : Nat → Int32) : Prop :=
  (hp_W n c K L R ∧ n ≤ c ∧ c ≤ tm ∧ tm ≤ 16 ∧ pm ≤ 32 ∧ ne ≤ 8 ∧ nr ≤ 8 ∧ ns ≤ pm) ∧
  (hp_C n c K L R A ∧ (∀ p, 256 ≤ p → A p = 0) ∧ hp_M c K L R M ∧ (∀ h, 16 ≤ h → M h = 0)) ∧
  ((∀ e, e < ne → ∃ h, h < c ∧ E e = nI h) ∧ hp_R c nr r0 r1 rc ∧ (∀ j, j < ns → ∃ g, g < 256 ∧ F j = nI g ∧ A g = nI g)) ∧
  ((∀ p, 256 ≤ p → Yc p = 0) ∧ (∀ h, 16 ≤ h → Ym h = 0)) ∧
  ((ph = 0 ∧ ns = 0 ∧ kn = 0 ∧ (∀ g, g < 256 → Z g = -1) ∧ (∀ g, 256 ≤ g → Z g = 0) ∧ ∀ g, 256 ≤ g → Yk g = 0) ∨
    (ph = 1 ∧ Yk = Z ∧ ∀ g, g < 256 → Z g = -1 ∨ ∃ j, j < 1000 ∧ Z g = nI j))
def i_Rel (_ : Nat) (u : SX) (v : SY) : Prop := ∃ (n tm pm c ne nr ns : Nat) (ph kn : Int32) (K L R M A Z E r0 r1 rc F Ym Yc Yk : Nat → Int32),
  u = (nI n, nI tm, nI pm, ph, nI c, nI ne, nI nr, nI ns, kn, K, L, R, M, A, Z, E, r0, r1, rc, F) ∧
  v = (nI n, nI tm, nI pm, nI c, nI ne, nI nr, nI ns, ph, kn, K, L, R, Ym, E, r0, r1, rc, F, Yc, Yk) ∧
  hp_J n tm pm c ne nr ns ph kn K L R M A Z E r0 r1 rc F Ym Yc Yk
theorem hj_mk {k n tm pm c ne nr ns : Nat} {ph kn : Int32} {K L R M A Z E r0 r1 rc F Ym Yc Yk : Nat → Int32} (h : hp_J n tm pm c ne nr ns ph kn K L R M A Z E r0 r1 rc F Ym Yc Yk) :
    i_Rel k (nI n, nI tm, nI pm, ph, nI c, nI ne, nI nr, nI ns, kn, K, L, R, M, A, Z, E, r0, r1, rc, F) (nI n, nI tm, nI pm, nI c, nI ne, nI nr, nI ns, ph, kn, K, L, R, Ym, E, r0, r1, rc, F, Yc, Yk) :=
  ⟨n, tm, pm, c, ne, nr, ns, ph, kn, K, L, R, M, A, Z, E, r0, r1, rc, F, Ym, Yc, Yk, rfl, rfl, h⟩
end
section
/-! a rule's step, purely -/
def hp_b (A : Nat → Int32) (x : Int32) (s : Nat) (f : Int32) : Prop := x = -1 ∨ A (x.toNatClampNeg * 16 + s) = f
def hp_z (n : Nat) (A : Nat → Int32) (x y z fb fc r : Int32) : Prop :=
  (∃ s, s < 16 ∧ hp_V n s ∧ (hp_b A x s fb ∧ hp_b A y s fc) ∧ (∀ t, t < s → hp_V n t → ¬ (hp_b A x t fb ∧ hp_b A y t fc)) ∧ r = A (z.toNatClampNeg * 16 + s)) ∨
  (r = -1 ∧ ∀ s, s < 16 → hp_V n s → ¬ (hp_b A x s fb ∧ hp_b A y s fc))
theorem hz_ex (n : Nat) (A : Nat → Int32) (x y z fb fc : Int32) : ∃ r, hp_z n A x y z fb fc r := by
  by_cases h : ∃ s, s < 16 ∧ hp_V n s ∧ (hp_b A x s fb ∧ hp_b A y s fc)
  · obtain ⟨s, ⟨h1, h2, h3⟩, hl⟩ := pk_least (fun s => s < 16 ∧ hp_V n s ∧ (hp_b A x s fb ∧ hp_b A y s fc)) h
    exact ⟨_, Or.inl ⟨s, h1, h2, h3, fun t ht hv z => hl t ht ⟨by omega, hv, z⟩, rfl⟩⟩
  · exact ⟨-1, Or.inr ⟨rfl, fun s hs hv z => h ⟨s, hs, hv, z⟩⟩⟩
/-- an answer of a new fact: none, or a ground id -/
def hp_o (A : Nat → Int32) (r : Int32) : Prop := r = -1 ∨ ∃ g, g < 256 ∧ r = nI g ∧ A g = nI g
section HZ
variable {n c nr : Nat} {K L R A r0 r1 rc : Nat → Int32}
theorem ho_r {k u v r : Int32} (h : hp_r K L R A k u v r) : hp_o A r := by
  rcases h with ⟨g, h1, h2, h3, _⟩ | ⟨h, _⟩
  · exact Or.inr ⟨g, h1, h2, h3.1⟩
  · exact Or.inl h
theorem ho_z (W : hp_W n c K L R) (C : ∀ p, p < 256 → hp_Q n c K L R A p) {x y z fb fc r : Int32} (hz : ∃ h, h < c ∧ z = nI h) (h : hp_z n A x y z fb fc r) : hp_o A r := by
  rcases h with ⟨s, h1, h2, _, _, h3⟩ | ⟨h, _⟩
  · obtain ⟨h0, hh, rfl⟩ := hz
    have w := W.2.2.1
    rw [nI_clamp (by omega)] at h3
    have e2 : (h0 * 16 + s) % 16 = s := by omega
    obtain ⟨q, x1, x2, x3, _⟩ := hc_p W C (t := h0 * 16 + s) ⟨by omega, by rw [e2]; exact h2⟩
    exact Or.inr ⟨q, x1, h3.trans x2, x3⟩
  · exact Or.inl h
end HZ
end
section
/-! X's small readers -/
section HXR
variable {fN fT fP fp fc fe fr fs fk : Int32} {K L R M A Z E r0 r1 rc F : Nat → Int32} {post : Int32 → Prop} {n c g l : Nat}
theorem xi_gid (hg : g < 256) (h1 : A g = nI g → post 1) (h0 : ¬ A g = nI g → post 0) : wpX_isGroundId post (fN, fT, fP, fp, fc, fe, fr, fs, fk, K, L, R, M, A, Z, E, r0, r1, rc, F) (nI g) := by
  refine ⟨vp_in_nI hg (by decide), ?_⟩
  rw [nI_clamp (by omega)]
  exact ⟨h1, h0⟩
theorem xi_left (hg : g < 256) (hl : l < 16) (e : L (g / 16) = nI l) (h : post (A (l * 16 + g % 16))) : wpX_leftPart post (fN, fT, fP, fp, fc, fe, fr, fs, fk, K, L, R, M, A, Z, E, r0, r1, rc, F) (nI g) := by
  have h1 := ha_r16 (a := g) (by omega)
  have h2 := ha_d16 (a := g) (by omega)
  have h3 : nI l * 16 + nI (g % 16) = nI (l * 16 + g % 16) := by rw [ha_16, nI_add]
  refine ⟨by decide, ?_, by decide, ?_, ?_⟩
  · rw [h2]
    exact vp_in_nI (by omega) (by decide)
  · rw [h1, h2, nI_clamp (by omega), e, h3]
    exact vp_in_nI (by omega) (by decide)
  · rw [h1, h2, nI_clamp (n := g / 16) (by omega), e, h3, nI_clamp (by omega)]
    exact h
theorem xi_right1 (hg : g < 256) (e : R (g / 16) = -1) (h : post (-1)) : wpX_rightPart post (fN, fT, fP, fp, fc, fe, fr, fs, fk, K, L, R, M, A, Z, E, r0, r1, rc, F) (nI g) := by
  have h2 := ha_d16 (a := g) (by omega)
  refine ⟨by decide, ?_, ?_⟩
  · rw [h2]
    exact vp_in_nI (by omega) (by decide)
  · rw [h2, nI_clamp (n := g / 16) (by omega), e]
    exact nm_e (br_t rfl h)
theorem xi_right (hg : g < 256) (hl : l < 16) (e : R (g / 16) = nI l) (h : post (A (l * 16 + g % 16))) : wpX_rightPart post (fN, fT, fP, fp, fc, fe, fr, fs, fk, K, L, R, M, A, Z, E, r0, r1, rc, F) (nI g) := by
  have h1 := ha_r16 (a := g) (by omega)
  have h2 := ha_d16 (a := g) (by omega)
  have h3 : nI l * 16 + nI (g % 16) = nI (l * 16 + g % 16) := by rw [ha_16, nI_add]
  refine ⟨by decide, ?_, ?_⟩
  · rw [h2]
    exact vp_in_nI (by omega) (by decide)
  · rw [h1, h2, nI_clamp (n := g / 16) (by omega), e]
    refine nm_e (br_f (ha_ne1 (by omega)) ⟨by decide, ?_, ?_⟩)
    · rw [h3]
      exact vp_in_nI (by omega) (by decide)
    · rw [h3, nI_clamp (by omega)]
      exact h
theorem xi_find3 {k u v r : Int32} (W : hp_W n c K L R) (hv : ∀ g, g < 256 → A g = nI g → g / 16 < c) (nk : ¬ (k = 0 ∨ k = 1)) (n5 : k = 5 → v = -1) (hr : hp_r K L R A k u v r) (h : post r) :
    ∀ d j, j + d = 256 → (∀ q, q < j → ¬ hp_q K L R A k u v q) → wX_findGround_3 post k u v fN fT fP fp fc fe fr fs fk K L R M A Z E r0 r1 rc F (d + 1) (nI j) := by
  have w := W.2.2.1
  intro d
  induction d with
  | zero =>
    intro j hj hq
    have e : j = 256 := by omega
    subst e
    refine br_t (nI_le (a := 256) (b := 256) (by omega) (by decide)) ?_
    rcases hr with ⟨g, h1, h2, h3, _⟩ | ⟨h1, _⟩
    · exact absurd h3 (hq g h1)
    · rw [← h1]; exact h
  | succ d ih =>
    intro j hj hq
    have hj2 : j < 256 := by omega
    have nx : ¬ hp_q K L R A k u v j → ∀ x, x = nI j + 1 → wX_findGround_3 post k u v fN fT fP fp fc fe fr fs fk K L R M A Z E r0 r1 rc F (d + 1) x := fun z =>
      nm_r (nI_1 j) (ih (j + 1) (by omega) (lt_s hq z))
    have fd : hp_q K L R A k u v j → post (nI j) := fun z => by
      rcases hr with ⟨g, h1, h2, h3, h4⟩ | ⟨_, h2⟩
      · have e : g = j := by
          rcases Nat.lt_trichotomy g j with y | y | y
          · exact absurd h3 (hq g y)
          · exact y
          · exact absurd z (h4 j y)
        rw [← e, ← h2]; exact h
      · exact absurd z (h2 j hj2)
    have e16 := ha_d16 (a := j) (by omega)
    refine br_f (nI_ge (b := 256) hj2 (by decide)) (xi_gid hj2 (fun e => br_f (by decide) ⟨by decide, ?_, ?_⟩) (fun e => br_t rfl (nx (fun z => e z.1))))
    · rw [e16]
      exact vp_in_nI (by omega) (by decide)
    · rw [e16, nI_clamp (n := j / 16) (by omega)]
      by_cases hk : K (j / 16) = k
      · refine br_t hk ?_
        have na : ¬ (K (j / 16) = 0 ∨ K (j / 16) = 1) := by rw [hk]; exact nk
        have hc := hv j hj2 e
        obtain ⟨_, ⟨l, hl, el⟩, hR⟩ := hw_na na W hc
        have ell : hp_l L j = l * 16 + j % 16 := by
          unfold hp_l
          rw [el, nI_clamp (by omega)]
        refine xi_left hj2 (by omega) el ?_
        by_cases hu : A (l * 16 + j % 16) = u
        · refine br_t hu ?_
          have hu' : A (hp_l L j) = u := by rw [ell]; exact hu
          rcases hR with ⟨h5, e1⟩ | ⟨h234, r', hr', er⟩
          · have k5 : k = 5 := hk.symm.trans h5
            exact xi_right1 hj2 e1 (br_t (n5 k5).symm (fd ⟨e, hk, hu', Or.inl k5⟩))
          · have err : hp_l R j = r' * 16 + j % 16 := by
              unfold hp_l
              rw [er, nI_clamp (by omega)]
            refine xi_right hj2 (by omega) er ?_
            by_cases hvv : A (r' * 16 + j % 16) = v
            · exact br_t hvv (fd ⟨e, hk, hu', Or.inr (by rw [err]; exact hvv)⟩)
            · refine br_f hvv (nx (fun z => ?_))
              rcases z.2.2.2 with z | z
              · rw [← hk] at z
                rcases h234 with y | y | y <;> rw [y] at z <;> exact absurd z (by decide)
              · exact hvv (by rw [← err]; exact z)
        · exact br_f hu (nx (fun z => hu (by rw [← ell]; exact z.2.2.1)))
      · exact br_f hk (nx (fun z => hk z.2.1))
theorem xi_find {k u v r : Int32} (W : hp_W n c K L R) (hv : ∀ g, g < 256 → A g = nI g → g / 16 < c) (nk : ¬ (k = 0 ∨ k = 1)) (n5 : k = 5 → v = -1) (hr : hp_r K L R A k u v r) (h : post r) :
    wpX_findGround post (fN, fT, fP, fp, fc, fe, fr, fs, fk, K, L, R, M, A, Z, E, r0, r1, rc, F) k u v :=
  ⟨_, xi_find3 W hv nk n5 hr h 256 0 rfl (fun q hq => absurd hq (Nat.not_lt_zero q))⟩
end HXR
end
section
/-! X's addTerm -/
section HXA
variable {fN fT fP fp fc fe fr fs fk : Int32} {K L R M A Z E r0 r1 rc F : Nat → Int32} {n c : Nat}
theorem hr_5 {u v v' r : Int32} (h : hp_r K L R A 5 u v r) : hp_r K L R A 5 u v' r := by
  have e : ∀ g, hp_q K L R A 5 u v g ↔ hp_q K L R A 5 u v' g := fun g => ⟨fun z => ⟨z.1, z.2.1, z.2.2.1, Or.inl rfl⟩, fun z => ⟨z.1, z.2.1, z.2.2.1, Or.inl rfl⟩⟩
  rcases h with ⟨g, a, b, d, f⟩ | ⟨a, b⟩
  · exact Or.inl ⟨g, a, b, (e g).mp d, fun q hq z => f q hq ((e q).mpr z)⟩
  · exact Or.inr ⟨a, fun q hq z => b q hq ((e q).mpr z)⟩
theorem xi_inst {post : Int32 → Prop} {vx vy m : Nat} (W : hp_W n (c + 1) K L R) (hm : m = c * 16 + (4 * vy + vx)) (hx : vx < n) (hy : vy < n)
    (C : ∀ p, p < m → hp_Q n (c + 1) K L R A p) (hz : ∀ p, m ≤ p → p < 256 → A p = -1)
    (h : ∀ q, q ≤ m → hp_V n (q % 16) → hp_S K L R A m q → (∀ q', q' < q → hp_V n (q' % 16) → ¬ hp_S K L R A m q') → post (nI q)) :
    wpX_instanceId post (fN, fT, fP, fp, fc, fe, fr, fs, fk, K, L, R, M, A, Z, E, r0, r1, rc, F) (nI c) (nI vx) (nI vy) := by
  have w := W.2.2.1
  have w4 := W.2.1
  have m1 : m / 16 = c := by omega
  have m2 : m % 16 = 4 * vy + vx := by omega
  have hV : hp_V n (m % 16) := by
    rw [m2]
    exact ⟨by omega, by omega⟩
  have ec : (nI c).toNatClampNeg = c := nI_clamp (by omega)
  have hin : vp_in (nI c) 16 := vp_in_nI (by omega) (by decide)
  have hv : ∀ g, g < 256 → A g = nI g → g / 16 < c + 1 := fun g hg e => by
    by_cases hgm : g < m
    · omega
    · have := hz g (by omega) hg
      rw [e] at this
      exact absurd this (ha_ne1 (by omega))
  have hat : hp_a K m → post (nI (16 * hp_n K L m)) := fun ha => by
    obtain ⟨a1, a2, a3, a4⟩ := hq_a (A := A) W (by omega) hV ha
    exact h _ a1 a2 a3 a4
  refine ⟨hin, ?_⟩
  rw [ec]
  refine nm_e ?_
  by_cases k0 : K c = 0
  · refine br_t k0 ?_
    have en : hp_n K L m = c := by
      unfold hp_n
      rw [m1, if_pos k0]
    have := hat (Or.inl (by rw [m1]; exact k0))
    rw [en, Nat.mul_comm] at this
    rw [ha_16]
    exact this
  · refine br_f k0 ?_
    by_cases k1 : K c = 1
    · refine br_t k1 ⟨hin, ?_⟩
      have := hat (Or.inr (by rw [m1]; exact k1))
      by_cases l0 : L c = 0
      · refine br_t l0 ?_
        have en : hp_n K L m = vx := by
          unfold hp_n
          rw [m1, if_neg k0, if_pos l0]
          omega
        rw [en, Nat.mul_comm] at this
        rw [ha_16]
        exact this
      · refine br_f l0 ?_
        have en : hp_n K L m = vy := by
          unfold hp_n
          rw [m1, if_neg k0, if_neg l0]
          omega
        rw [en, Nat.mul_comm] at this
        rw [ha_16]
        exact this
    · have na : ¬ hp_a K m := by
        unfold hp_a
        rw [m1]
        exact fun z => z.elim k0 k1
      have ex : nI vx + 4 * nI vy = nI (m % 16) := by
        rw [ha_4, nI_add, m2]
        exact congrArg nI (by omega)
      have em : nI c * 16 + nI (m % 16) = nI m := by
        rw [ha_16, nI_add]
        exact congrArg nI (by omega)
      obtain ⟨l, hl, el, ell⟩ := hw_lp W (p := m) (by omega) na
      have el' : nI l * 16 + nI (m % 16) = nI (hp_l L m) := by
        rw [ha_16, nI_add, ell]
      rw [m1] at el
      refine br_f k1 (nm_r ex ?_)
      rw [el, el', nI_clamp (n := hp_l L m) (by omega)]
      refine ⟨hin, vp_in_nI (by omega) (by decide), nm_e ?_⟩
      have fin : ∀ r, hp_r K L R A (K c) (A (hp_l L m)) (A (hp_l R m)) r → (r = -1 → post (nI c * 16 + nI (m % 16))) ∧ (¬ r = -1 → post r) := fun r hr => by
        rw [← m1] at hr
        rcases hr with ⟨g, h1, h2, h3, h4⟩ | ⟨h1, h2⟩
        · obtain ⟨b1, b2, b3, b4⟩ := hq_f C hz (by omega) na h1 h3 h4
          refine br_f (by rw [h2]; exact ha_ne1 (by omega)) ?_
          rw [h2]
          exact h g b1 b2 b3 b4
        · refine br_t h1 ?_
          rw [em]
          exact h m (Nat.le_refl _) hV hs_r (hq_0 C (by omega) (by omega) na h2)
      have nk : ¬ (K c = 0 ∨ K c = 1) := fun z => z.elim k0 k1
      by_cases k5 : K c = 5
      · refine br_t k5 ?_
        obtain ⟨r, hr⟩ := hr_ex (K := K) (L := L) (R := R) (A := A) (K c) (A (hp_l L m)) (-1)
        refine xi_find W hv nk (fun _ => rfl) hr (fin r ?_)
        rw [k5] at hr ⊢
        exact hr_5 hr
      · obtain ⟨l', hl', er, err⟩ := hw_rp W (p := m) (by omega) na (by rw [m1]; exact k5)
        have er' : nI l' * 16 + nI (m % 16) = nI (hp_l R m) := by
          rw [ha_16, nI_add, err]
        rw [m1] at er
        refine br_f k5 ?_
        rw [er, er', nI_clamp (n := hp_l R m) (by omega)]
        obtain ⟨r, hr⟩ := hr_ex (K := K) (L := L) (R := R) (A := A) (K c) (A (hp_l L m)) (A (hp_l R m))
        exact ⟨hin, vp_in_nI (by omega) (by decide), xi_find W hv nk (fun z => absurd z k5) hr (fin r hr)⟩
def hp_P (n c : Nat) (K L R A : Nat → Int32) (m : Nat) : Prop := (∀ p, p < m → hp_Q n c K L R A p) ∧ (∀ p, m ≤ p → p < 256 → A p = -1) ∧ ∀ p, 256 ≤ p → A p = 0
theorem xi_add67 {post : Int32 → SX → Prop} {J : Int32 → (Nat → Int32) → (Nat → Int32) → (Nat → Int32) → (Nat → Int32) → (Nat → Int32) → (Nat → Int32) → (Nat → Int32) → (Nat → Int32) → (Nat → Int32) → (Nat → Int32) → (Nat → Int32) → Prop} {vy : Nat}
    (W : hp_W n (c + 1) K L R) (hy : vy < n) (hP : hp_P n (c + 1) K L R A (c * 16 + 4 * vy))
    (hJ : ∀ A', hp_P n (c + 1) K L R A' (c * 16 + 4 * (vy + 1)) → J (nI (vy + 1)) K L R M A' Z E r0 r1 rc F) :
    ∃ n67, wX_addTerm_67 post J (nI c) (nI vy) (nI n) fT fP fp fc fe fr fs fk n67 0 K L R M A Z E r0 r1 rc F := by
  have w := W.2.2.1
  have w4 := W.2.1
  refine pk_loop (fun f i s => wX_addTerm_67 post J (nI c) (nI vy) (nI n) fT fP fp fc fe fr fs fk f (nI i) K L R M s Z E r0 r1 rc F) (fun i s => hp_P n (c + 1) K L R s (c * 16 + (4 * vy + i))) n 0 A (by omega) hP ?_ ?_
  · intro f s hs
    refine br_t (nI_le (Nat.le_refl _) (by omega)) (nm_r (nI_1 vy) (hJ s ⟨?_, fun p h1 h2 => hs.2.1 p (by omega) h2, hs.2.2⟩))
    exact hq_k hs.1 hs.2.1 (by omega) (by omega) (fun p h1 h2 z => by have := z.1; omega)
  · intro f i s hi hs nx
    have em : nI c * 16 + nI i + 4 * nI vy = nI (c * 16 + (4 * vy + i)) := by
      rw [ha_16, ha_4, nI_add, nI_add]
      exact congrArg nI (by omega)
    refine br_f (nI_ge hi (by omega)) (nm_r em (xi_inst W rfl hi hy hs.1 hs.2.1 ?_))
    intro q h1 h2 h3 h4
    refine ⟨vp_in_nI (by omega) (by decide), ?_⟩
    rw [nI_clamp (by omega)]
    refine nm_e (nm_r (nI_1 i) (nx _ ⟨?_, ?_, ?_⟩))
    · have m2 : (c * 16 + (4 * vy + i)) % 16 = 4 * vy + i := by omega
      have hh := hq_s (m := c * 16 + (4 * vy + i)) W hs.1 (by omega) h1 h2 h3 h4 (by rw [m2]; exact ⟨by omega, by omega⟩)
      exact hh
    · intro p g1 g2
      rw [pk_un (by omega)]
      exact hs.2.1 p (by omega) g2
    · intro p g1
      rw [pk_un (by omega)]
      exact hs.2.2 p g1
theorem xi_add55 {post : Int32 → SX → Prop} (W : hp_W n (c + 1) K L R) (hP : hp_P n (c + 1) K L R A (c * 16))
    (h : ∀ A', hp_C n (c + 1) K L R A' → (∀ p, 256 ≤ p → A' p = 0) → post (nI c) (nI n, fT, fP, fp, fc, fe, fr, fs, fk, K, L, R, M, A', Z, E, r0, r1, rc, F)) :
    ∃ n55, wX_addTerm_55 post (nI c) (nI n) fT fP fp fc fe fr fs fk n55 0 K L R M A Z E r0 r1 rc F := by
  have w := W.2.2.1
  have w4 := W.2.1
  refine pk_loop (fun f i s => wX_addTerm_55 post (nI c) (nI n) fT fP fp fc fe fr fs fk f (nI i) K L R M s Z E r0 r1 rc F) (fun i s => hp_P n (c + 1) K L R s (c * 16 + 4 * i)) n 0 A (by omega) hP ?_ ?_
  · intro f s hs
    refine br_t (nI_le (Nat.le_refl _) (by omega)) (h s (hq_z (by omega) (hq_k hs.1 hs.2.1 (by omega) (by omega) (fun p h1 h2 z => by have := z.2; omega)) (fun p h1 h2 => hs.2.1 p (by omega) h2)) hs.2.2)
  · intro f i s hi hs nx
    exact br_f (nI_ge hi (by omega)) (xi_add67 W hi hs (fun A' h' => nx A' h'))
theorem xi_vars {post : Int32 → Prop} {k a b v : Int32} (hc : c < 16) (h : hp_N n c k a b) {K' L' R' : Nat → Int32} (e1 : K' c = k) (e2 : L' c = a) (e3 : R' c = b) (hv : v = hp_mv (c + 1) K' L' R' M c) (hp : post v) : wpX_varsOf post (fN, fT, fP, fp, fc, fe, fr, fs, fk, K, L, R, M, A, Z, E, r0, r1, rc, F) k a b := by
  unfold hp_mv at hv
  rw [e1, e2, e3] at hv
  have c1 : ¬ c + 1 ≤ c := by omega
  by_cases k0 : k = 0
  · rw [if_pos (Or.inr k0)] at hv
    refine br_t k0 ?_
    rw [← hv]; exact hp
  · rw [if_neg (fun z => z.elim c1 k0)] at hv
    refine br_f k0 ?_
    rcases h with h | ⟨_, h | h | h⟩
    · exact absurd h.2.1 k0
    · obtain ⟨rfl, ha, _⟩ := h
      rw [if_pos rfl] at hv
      refine br_t rfl ?_
      rcases ha with rfl | rfl
      · rw [if_pos rfl] at hv
        rw [show (1 : Int32) <<< ((0 : Int32) &&& 31) = 1 by decide, ← hv]; exact hp
      · rw [if_neg (by decide)] at hv
        rw [show (1 : Int32) <<< ((1 : Int32) &&& 31) = 2 by decide, ← hv]; exact hp
    · obtain ⟨rfl, ⟨l, hl, rfl⟩, _⟩ := h
      rw [if_neg (by decide), if_pos rfl] at hv
      refine br_f (by decide) (br_t rfl ⟨vp_in_nI (by omega) (by decide), ?_⟩)
      rw [← hv]; exact hp
    · obtain ⟨hk, ⟨l, hl, rfl⟩, ⟨r, hr, rfl⟩⟩ := h
      have k1 : ¬ k = 1 := by rcases hk with rfl | rfl | rfl <;> decide
      have k5 : ¬ k = 5 := by rcases hk with rfl | rfl | rfl <;> decide
      rw [if_neg k1, if_neg k5] at hv
      refine br_f k1 (br_f k5 ⟨vp_in_nI (by omega) (by decide), vp_in_nI (by omega) (by decide), ?_⟩)
      rw [← hv]; exact hp
theorem xi_add {post : Int32 → SX → Prop} {k a b : Int32} (W : hp_W n c K L R) (hc : c < 16) (hN : hp_N n c k a b) (C : hp_C n c K L R A) (hA : ∀ p, 256 ≤ p → A p = 0) (hM : hp_M c K L R M) (hMt : ∀ p, 16 ≤ p → M p = 0)
    (h : ∀ A' M', hp_C n (c + 1) (upd K c k) (upd L c a) (upd R c b) A' → (∀ p, 256 ≤ p → A' p = 0) → hp_M (c + 1) (upd K c k) (upd L c a) (upd R c b) M' → (∀ p, 16 ≤ p → M' p = 0) → post (nI c) (nI n, fT, fP, fp, nI (c + 1), fe, fr, fs, fk, upd K c k, upd L c a, upd R c b, M', A', Z, E, r0, r1, rc, F)) :
    wpX_addTerm post (nI n, fT, fP, fp, nI c, fe, fr, fs, fk, K, L, R, M, A, Z, E, r0, r1, rc, F) k a b := by
  have hin : vp_in (nI c) 16 := vp_in_nI hc (by decide)
  have ec : (nI c).toNatClampNeg = c := nI_clamp (by omega)
  refine ⟨hin, nm_r (e' := upd K c k) (by rw [ec]) ⟨hin, nm_r (e' := upd L c a) (by rw [ec]) ⟨hin, nm_r (e' := upd R c b) (by rw [ec]) (xi_vars (K' := upd K c k) (L' := upd L c a) (R' := upd R c b) hc hN pk_us pk_us pk_us rfl ⟨hin, ?_⟩)⟩⟩⟩
  rw [ec]
  refine nm_e (nm_r (nI_1 c) (xi_add55 (hw_x W hc hN) ⟨hq_x W C, hq_y W C, hA⟩ (fun A' h1 h2 => h A' _ h1 h2 (hm_x W hc hN hM rfl) ?_)))
  intro p hp
  rw [pk_un (by omega)]
  exact hMt p hp
end HXA
end
section
/-! both constructors -/
theorem hp_cl (x : Int32) {lo hi : Nat} (h : lo ≤ hi) (hb : hi < 1000) : ∃ j, lo ≤ j ∧ j ≤ hi ∧ ∀ P : Int32 → Prop, P (nI j) → ((nI lo ≤ x → ((x ≤ nI hi → P x) ∧ (¬ x ≤ nI hi → P (nI hi)))) ∧ (¬ nI lo ≤ x → P (nI lo))) := by
  by_cases h1 : nI lo ≤ x
  · by_cases h2 : x ≤ nI hi
    · have h0 : ¬ x < 0 := fun z => by
        have := Int32.lt_of_le_of_lt h1 z
        exact nI_pos (by omega) this
      obtain ⟨j, hj, rfl⟩ := nI_of h0
      rw [nI_leI (by omega) hj] at h1
      rw [nI_leI hj (by omega)] at h2
      exact ⟨j, h1, h2, fun P hP => br_t (nI_le h1 hj) (br_t (nI_le h2 (by omega)) hP)⟩
    · exact ⟨hi, h, Nat.le_refl _, fun P hP => br_t h1 (br_f h2 hP)⟩
  · exact ⟨lo, Nat.le_refl _, h, fun P hP => br_f h1 hP⟩
def hp_neg (m : Nat) : Nat → Int32 := fun p => if p < m then -1 else 0
theorem hn_s (m : Nat) : upd (hp_neg m) m (-1) = hp_neg (m + 1) := by
  funext p
  by_cases e : p = m
  · subst e
    rw [pk_us]
    exact (if_pos (by omega)).symm
  · rw [pk_un e]
    by_cases h : p < m
    · exact (if_pos h).trans (if_pos (show p < m + 1 by omega)).symm
    · exact (if_neg h).trans (if_neg (show ¬ p < m + 1 by omega)).symm
theorem hn_0 : (fun _ => 0 : Nat → Int32) = hp_neg 0 := funext fun p => (if_neg (Nat.not_lt_zero p)).symm
theorem hn_lo {p : Nat} (h : p < 256) : hp_neg 256 p = -1 := if_pos h
theorem hn_hi {p : Nat} (h : 256 ≤ p) : hp_neg 256 p = 0 := if_neg (by omega)
section HXI
variable {fN fT fP fp fc fe fr fs fk : Int32} {K L R M A Z E r0 r1 rc F : Nat → Int32} {n : Nat} {post : SX → Prop}
theorem xi_i194 (h2 : 2 ≤ n) (h4 : n ≤ 4)
    (h : ∀ A M, hp_C n n (hp_k0 n) (hp_l0 n) (hp_r0 n) A → (∀ p, 256 ≤ p → A p = 0) → hp_M n (hp_k0 n) (hp_l0 n) (hp_r0 n) M → (∀ p, 16 ≤ p → M p = 0) → post (nI n, fT, fP, fp, nI n, fe, fr, fs, fk, hp_k0 n, hp_l0 n, hp_r0 n, M, A, Z, E, r0, r1, rc, F)) :
    ∃ f, wX_init_194 post f 0 (nI n) fT fP fp 0 fe fr fs fk (fun _ => 0) (fun _ => 0) (fun _ => 0) (fun _ => 0) (hp_neg 256) Z E r0 r1 rc F := by
  refine pk_loop (fun f i (s : (Nat → Int32) × (Nat → Int32)) => wX_init_194 post f (nI i) (nI n) fT fP fp (nI i) fe fr fs fk (hp_k0 i) (hp_l0 i) (hp_r0 i) (s.1) (s.2) Z E r0 r1 rc F)
    (fun i s => hp_C n i (hp_k0 i) (hp_l0 i) (hp_r0 i) s.2 ∧ (∀ p, 256 ≤ p → s.2 p = 0) ∧ hp_M i (hp_k0 i) (hp_l0 i) (hp_r0 i) s.1 ∧ (∀ p, 16 ≤ p → s.1 p = 0)) n 0 (fun _ => 0, hp_neg 256) (by omega) ⟨?_, ?_, ?_, ?_⟩ ?_ ?_
  · exact fun p hp => ⟨fun z => absurd z (Nat.not_lt_zero _), fun _ => hn_lo hp⟩
  · exact fun p hp => hn_hi hp
  · exact fun x hx => (if_pos (Or.inl (Nat.zero_le x))).symm
  · exact fun p hp => rfl
  · intro f s hs
    exact br_t (nI_le (Nat.le_refl _) (by omega)) (h s.2 s.1 hs.1 hs.2.1 hs.2.2.1 hs.2.2.2)
  · intro f i s hi hs nx
    refine br_f (nI_ge hi (by omega)) (xi_add (hw_0 h2 h4 i (by omega)) (by omega) (Or.inl ⟨hi, rfl, rfl, rfl⟩) hs.1 hs.2.1 hs.2.2.1 hs.2.2.2 ?_)
    intro A' M' g1 g2 g3 g4
    exact nm_r (nI_1 i) (nx (M', A') ⟨g1, g2, g3, g4⟩)
theorem xi_i161 (h : ∃ f, wX_init_194 post f 0 fN fT fP fp fc fe fr fs fk K L R M (hp_neg 256) (hp_neg 256) E r0 r1 rc F) : ∃ f, wX_init_161 post fN fT fP fp fc fe fr fs fk f 0 K L R M (fun _ => 0) (fun _ => 0) E r0 r1 rc F := by
  refine pk_loop (fun f i (s : Nat → Int32) => wX_init_161 post fN fT fP fp fc fe fr fs fk f (nI i) K L R M s s E r0 r1 rc F) (fun i s => s = hp_neg i) 256 0 (fun _ => 0) (by omega) hn_0 ?_ ?_
  · intro f s hs
    subst hs
    exact br_t (nI_le (a := 256) (b := 256) (by omega) (by decide)) h
  · intro f i s hi hs nx
    subst hs
    have hin : vp_in (nI i) 256 := vp_in_nI hi (by decide)
    have e : upd (hp_neg i) (nI i).toNatClampNeg (-1) = hp_neg (i + 1) := by
      rw [nI_clamp (by omega)]
      exact hn_s i
    exact br_f (nI_ge (b := 256) hi (by decide)) ⟨hin, nm_r e ⟨hin, nm_r e (nm_r (nI_1 i) (nx _ rfl))⟩⟩
end HXI
section HYI
variable {fN fT fP fc fe fr fs fp fk : Int32} {K L R Ym E r0 r1 rc F Yc Yk : Nat → Int32} {n : Nat} {post : SY → Prop}
theorem yi_i174 (h4 : n ≤ 4) (h : post (nI n, fT, fP, nI n, fe, fr, fs, 0, fk, hp_k0 n, hp_l0 n, hp_r0 n, Ym, E, r0, r1, rc, F, Yc, Yk)) : ∃ f, wY_init_174 post (nI n) fT fP fc fe fr fs fp fk f 0 (fun _ => 0) (fun _ => 0) (fun _ => 0) Ym E r0 r1 rc F Yc Yk := by
  refine pk_loop (fun f i (_ : Unit) => wY_init_174 post (nI n) fT fP fc fe fr fs fp fk f (nI i) (hp_k0 i) (hp_l0 i) (hp_r0 i) Ym E r0 r1 rc F Yc Yk) (fun _ _ => True) n 0 () (by omega) trivial ?_ ?_
  · intro f s _
    exact br_t (nI_le (Nat.le_refl _) (by omega)) h
  · intro f i s hi _ nx
    have hin : vp_in (nI i) 16 := vp_in_nI (by omega) (by decide)
    have ec : (nI i).toNatClampNeg = i := nI_clamp (by omega)
    refine br_f (nI_ge hi (by omega)) ⟨hin, nm_r (e' := hp_k0 (i + 1)) (by rw [ec]; rfl) ⟨hin, nm_r (e' := hp_l0 (i + 1)) (by rw [ec]; rfl) ⟨hin, nm_r (e' := hp_r0 (i + 1)) (by rw [ec]; rfl) (nm_r (nI_1 i) (nx () trivial))⟩⟩⟩
end HYI
theorem i_up {k : Nat} {u : SX} {v : SY} (h : i_Rel k u v) : i_Rel (k + 5) u v := h
theorem i_vc0 (k0 : Int32) (k1 : Int32) (k2 : Int32) : wpX_init (fun u => wpY_init (fun v => i_Rel 3 u v) k0 k1 k2) k0 k1 k2 := by
  obtain ⟨n, n1, n2, hn⟩ := hp_cl k0 (lo := 2) (hi := 4) (by omega) (by omega)
  obtain ⟨t, t1, t2, ht⟩ := hp_cl k1 (lo := 8) (hi := 16) (by omega) (by omega)
  obtain ⟨s, s1, s2, hs⟩ := hp_cl k2 (lo := 8) (hi := 32) (by omega) (by omega)
  unfold wpX_init
  refine hn (fun r_1 => wpX_clamped (fun r_2 => (wpX_clamped (fun r_3 => (∃ n161 : Nat, wX_init_161 _ r_1 r_2 r_3 0 0 0 0 0 0 n161 0 (fun _ => 0) (fun _ => 0) (fun _ => 0) (fun _ => 0) (fun _ => 0) (fun _ => 0) (fun _ => 0) (fun _ => 0) (fun _ => 0) (fun _ => 0) (fun _ => 0))) k2 8 32)) k1 8 16) ?_
  refine ht (fun r_2 => (wpX_clamped (fun r_3 => (∃ n161 : Nat, wX_init_161 _ (nI n) r_2 r_3 0 0 0 0 0 0 n161 0 (fun _ => 0) (fun _ => 0) (fun _ => 0) (fun _ => 0) (fun _ => 0) (fun _ => 0) (fun _ => 0) (fun _ => 0) (fun _ => 0) (fun _ => 0) (fun _ => 0))) k2 8 32)) ?_
  refine hs (fun r_3 => (∃ n161 : Nat, wX_init_161 _ (nI n) (nI t) r_3 0 0 0 0 0 0 n161 0 (fun _ => 0) (fun _ => 0) (fun _ => 0) (fun _ => 0) (fun _ => 0) (fun _ => 0) (fun _ => 0) (fun _ => 0) (fun _ => 0) (fun _ => 0) (fun _ => 0))) ?_
  refine xi_i161 (xi_i194 n1 n2 (fun A M c1 c2 c3 c4 => ?_))
  refine hn (fun z => wY_init_114 _ k1 k2 z 0 0 0 0 0 0 0 0 0 (fun _ => 0) (fun _ => 0) (fun _ => 0) (fun _ => 0) (fun _ => 0) (fun _ => 0) (fun _ => 0) (fun _ => 0) (fun _ => 0) (fun _ => 0) (fun _ => 0)) ?_
  refine ht (fun z => wY_init_141 _ k2 z (nI n) 0 0 0 0 0 0 0 0 (fun _ => 0) (fun _ => 0) (fun _ => 0) (fun _ => 0) (fun _ => 0) (fun _ => 0) (fun _ => 0) (fun _ => 0) (fun _ => 0) (fun _ => 0) (fun _ => 0)) ?_
  refine hs (fun z => ∃ n174 : Nat, wY_init_174 _ (nI n) (nI t) z 0 0 0 0 0 0 n174 0 (fun _ => 0) (fun _ => 0) (fun _ => 0) (fun _ => 0) (fun _ => 0) (fun _ => 0) (fun _ => 0) (fun _ => 0) (fun _ => 0) (fun _ => 0) (fun _ => 0)) ?_
  refine yi_i174 n2 ?_
  refine hj_mk (ne := 0) (nr := 0) (ns := 0) ⟨⟨hw_0 n1 n2 n (Nat.le_refl _), Nat.le_refl _, by omega, t2, s2, by omega, by omega, by omega⟩, ⟨c1, c2, c3, c4⟩, ⟨fun e he => absurd he (Nat.not_lt_zero _), fun e he => absurd he (Nat.not_lt_zero _), fun e he => absurd he (Nat.not_lt_zero _)⟩, ⟨fun _ _ => rfl, fun _ _ => rfl⟩, Or.inl ⟨rfl, rfl, rfl, fun g hg => hn_lo hg, fun g hg => hn_hi hg, fun _ _ => rfl⟩⟩
end
section
/-! the reference's small readers, and its refresh -/
section HYR
variable {fN fT fP fc fe fr fs fp fk : Int32} {K L R Ym E r0 r1 rc F Yc Yk : Nat → Int32} {post : Int32 → Prop} {n c g l p q s : Nat}
theorem yi_vc (hn : n ≤ 4) (hs : s < 16) (h1 : hp_V n s → post 1) (h0 : ¬ hp_V n s → post 0) : wpY_validCode post (nI n, fT, fP, fc, fe, fr, fs, fp, fk, K, L, R, Ym, E, r0, r1, rc, F, Yc, Yk) (nI s) := by
  refine br_f (nI_pos (by omega)) (br_f (nI_ge (b := 16) hs (by decide)) ?_)
  rw [ha_a3 (by omega), ha_s2 (by omega)]
  by_cases a : n ≤ s % 4
  · exact br_t (nI_le a (by omega)) (h0 (fun z => by have := z.1; omega))
  · refine br_f (nI_ge (by omega) (by omega)) ?_
    by_cases b : n ≤ s / 4
    · exact br_t (nI_le b (by omega)) (h0 (fun z => by have := z.2; omega))
    · exact br_f (nI_ge (by omega) (by omega)) (h1 ⟨by omega, by omega⟩)
theorem ya_h (hg : g < 256) : (nI g >>> ((4 : Int32) &&& 31)) &&& 15 = nI (g / 16) := by
  rw [ha_s4 (by omega), ha_a15 (by omega), Nat.mod_eq_of_lt (by omega)]
theorem ya_p (hl : l < 16) : (nI l * 16 + nI (g % 16)) &&& 255 = nI (l * 16 + g % 16) := by
  rw [ha_16, nI_add, ha_a255 (by omega)]
theorem yi_gk (hg : g < 256) (h1 : K (g / 16) = 1 → post 0) (h0 : ¬ K (g / 16) = 1 → post (K (g / 16))) : wpY_gkind post (fN, fT, fP, fc, fe, fr, fs, fp, fk, K, L, R, Ym, E, r0, r1, rc, F, Yc, Yk) (nI g) := by
  refine ⟨?_, ?_⟩
  · rw [ya_h hg]
    exact vp_in_nI (by omega) (by decide)
  · rw [ya_h hg, nI_clamp (by omega)]
    exact nm_e ⟨h1, h0⟩
theorem yi_gl (hg : g < 256) (hl : l < 16) (e : L (g / 16) = nI l) (h : post (Yc (l * 16 + g % 16))) : wpY_gleft post (fN, fT, fP, fc, fe, fr, fs, fp, fk, K, L, R, Ym, E, r0, r1, rc, F, Yc, Yk) (nI g) := by
  refine nm_r (ya_h hg) ?_
  rw [nI_clamp (n := g / 16) (by omega), e, ha_a15 (by omega), ya_p hl, nI_clamp (by omega)]
  exact ⟨vp_in_nI (by omega) (by decide), vp_in_nI (by omega) (by decide), h⟩
theorem yi_gr (hg : g < 256) (hl : l < 16) (e : R (g / 16) = nI l) (h : post (Yc (l * 16 + g % 16))) : wpY_gright post (fN, fT, fP, fc, fe, fr, fs, fp, fk, K, L, R, Ym, E, r0, r1, rc, F, Yc, Yk) (nI g) := by
  refine nm_r (ya_h hg) ?_
  rw [nI_clamp (n := g / 16) (by omega), e, ha_a15 (by omega), ya_p hl, nI_clamp (by omega)]
  exact ⟨vp_in_nI (by omega) (by decide), vp_in_nI (by omega) (by decide), h⟩
theorem hw_nm {h : Nat} (W : hp_W n c K L R) (hh : h < c) (k : K h = 0) : L h = nI h := by
  rcases W.2.2.2 h hh with ⟨_, _, z, _⟩ | ⟨_, b | b | ⟨b | b | b, _⟩⟩
  · exact z
  · rw [b.1] at k; exact absurd k (by decide)
  · rw [b.1] at k; exact absurd k (by decide)
  · rw [b] at k; exact absurd k (by decide)
  · rw [b] at k; exact absurd k (by decide)
  · rw [b] at k; exact absurd k (by decide)
theorem yi_nm (W : hp_W n c K L R) (hp : p / 16 < c) (h : post (nI (hp_n K L p))) : wpY_nameOf post (fN, fT, fP, fc, fe, fr, fs, fp, fk, K, L, R, Ym, E, r0, r1, rc, F, Yc, Yk) (nI (p / 16)) (nI (p % 16)) := by
  have w := W.2.2.1
  have hin : vp_in (nI (p / 16)) 16 := vp_in_nI (by omega) (by decide)
  refine ⟨hin, ?_⟩
  rw [nI_clamp (by omega), ha_a3 (by omega), ha_s2 (by omega)]
  unfold hp_n at h
  by_cases k0 : K (p / 16) = 0
  · rw [if_pos k0] at h
    refine br_t k0 ⟨hin, ?_⟩
    rw [hw_nm W hp k0]
    exact h
  · rw [if_neg k0] at h
    refine br_f k0 ⟨hin, ?_⟩
    by_cases l0 : L (p / 16) = 0
    · rw [if_pos l0] at h
      exact br_t l0 h
    · rw [if_neg l0] at h
      exact br_f l0 h
def hp_kk (K : Nat → Int32) (p : Nat) : Int32 := if K (p / 16) = 1 then 0 else K (p / 16)
theorem hk_1 (h : hp_a K p) : hp_kk K p = 0 := by
  unfold hp_kk
  rcases h with h | h
  · rw [h]; rfl
  · rw [if_pos h]
theorem hk_2 (h : ¬ hp_a K p) : hp_kk K p = K (p / 16) := if_neg (fun z => h (Or.inr z))
theorem yi_42 (W : hp_W n c K L R) (hp : p / 16 < c) (hq : q / 16 < c) (h1 : hp_S K L R Yc p q → post 1) (h0 : ¬ hp_S K L R Yc p q → post 0) : wY_same_42 post (nI (p / 16)) (nI (p % 16)) (nI (q / 16)) (nI (q % 16)) (hp_kk K p) (hp_kk K q) fN fT fP fc fe fr fs fp fk K L R Ym E r0 r1 rc F Yc Yk := by
  have w := W.2.2.1
  have ip : vp_in (nI (p / 16)) 16 := vp_in_nI (by omega) (by decide)
  have iq : vp_in (nI (q / 16)) 16 := vp_in_nI (by omega) (by decide)
  have ep : (nI (p / 16)).toNatClampNeg = p / 16 := nI_clamp (by omega)
  have eq : (nI (q / 16)).toNatClampNeg = q / 16 := nI_clamp (by omega)
  unfold wY_same_42
  by_cases ap : hp_a K p
  · rw [hk_1 ap]
    by_cases aq : hp_a K q
    · rw [hk_1 aq]
      refine br_t rfl (br_t rfl (yi_nm W hp (yi_nm W hq ?_)))
      have bp : hp_n K L p < 2 ^ 31 := by unfold hp_n; split <;> (try split) <;> omega
      have bq : hp_n K L q < 2 ^ 31 := by unfold hp_n; split <;> (try split) <;> omega
      by_cases e : hp_n K L p = hp_n K L q
      · exact br_t (by rw [e]) (h1 (Or.inl ⟨ap, aq, e⟩))
      · refine br_f (fun z => e (ha_eq z bp bq)) (h0 ?_)
        rintro (z | z)
        · exact e z.2.2
        · exact z.1 ap
    · rw [hk_2 aq]
      refine br_f (fun z => aq (Or.inl z.symm)) (h0 ?_)
      rintro (z | z)
      · exact aq z.2.1
      · exact z.1 ap
  · rw [hk_2 ap]
    by_cases e : K (p / 16) = K (q / 16)
    · have aq : ¬ hp_a K q := fun z => ap (hs_k z e.symm)
      rw [hk_2 aq]
      obtain ⟨l1, g1, d1, f1⟩ := hw_lp W hp ap
      obtain ⟨l2, g2, d2, f2⟩ := hw_lp W hq aq
      refine br_t e (br_f (fun z => ap (Or.inl z)) ?_)
      rw [ep, eq, d1, d2, ya_p (by omega), ya_p (by omega), nI_clamp (n := l1 * 16 + p % 16) (by omega), nI_clamp (n := l2 * 16 + q % 16) (by omega)]
      refine ⟨ip, vp_in_nI (by omega) (by decide), iq, vp_in_nI (by omega) (by decide), ?_⟩
      rw [← f1, ← f2]
      by_cases a1 : Yc (hp_l L p) = Yc (hp_l L q)
      · refine br_t a1 ?_
        by_cases k5 : K (p / 16) = 5
        · exact br_t k5 (h1 (Or.inr ⟨ap, e, a1, Or.inl k5⟩))
        · obtain ⟨l3, g3, d3, f3⟩ := hw_rp W hp ap k5
          obtain ⟨l4, g4, d4, f4⟩ := hw_rp W hq aq (by rw [← e]; exact k5)
          refine br_f k5 ?_
          rw [d3, d4, ya_p (by omega), ya_p (by omega), nI_clamp (n := l3 * 16 + p % 16) (by omega), nI_clamp (n := l4 * 16 + q % 16) (by omega)]
          refine ⟨ip, vp_in_nI (by omega) (by decide), iq, vp_in_nI (by omega) (by decide), ?_⟩
          rw [← f3, ← f4]
          by_cases a2 : Yc (hp_l R p) = Yc (hp_l R q)
          · exact br_t a2 (h1 (Or.inr ⟨ap, e, a1, Or.inr a2⟩))
          · refine br_f a2 (h0 ?_)
            rintro (z | z)
            · exact ap z.1
            · exact z.2.2.2.elim k5 a2
      · refine br_f a1 (h0 ?_)
        rintro (z | z)
        · exact ap z.1
        · exact a1 z.2.2.1
    · have ne : ¬ K (p / 16) = hp_kk K q := by
        unfold hp_kk
        split
        · exact fun z => ap (Or.inl z)
        · exact e
      refine br_f ne (h0 ?_)
      rintro (z | z)
      · exact ap z.1
      · exact e z.2.1
theorem yi_20 {z : Int32} (w : q / 16 < 16) (h : wY_same_42 post (nI (p / 16)) (nI (p % 16)) (nI (q / 16)) (nI (q % 16)) z (hp_kk K q) fN fT fP fc fe fr fs fp fk K L R Ym E r0 r1 rc F Yc Yk) : wY_same_20 post (nI (p / 16)) (nI (p % 16)) (nI (q / 16)) (nI (q % 16)) z fN fT fP fc fe fr fs fp fk K L R Ym E r0 r1 rc F Yc Yk := by
  have iq : vp_in (nI (q / 16)) 16 := vp_in_nI (by omega) (by decide)
  refine ⟨iq, ?_⟩
  rw [nI_clamp (n := q / 16) (by omega)]
  unfold hp_kk at h
  by_cases k : K (q / 16) = 1
  · rw [if_pos k] at h
    exact br_t k h
  · rw [if_neg k] at h
    exact br_f k ⟨iq, h⟩
theorem yi_same (W : hp_W n c K L R) (hp : p / 16 < c) (hq : q / 16 < c) (h1 : hp_S K L R Yc p q → post 1) (h0 : ¬ hp_S K L R Yc p q → post 0) : wpY_same post (fN, fT, fP, fc, fe, fr, fs, fp, fk, K, L, R, Ym, E, r0, r1, rc, F, Yc, Yk) (nI (p / 16)) (nI (p % 16)) (nI (q / 16)) (nI (q % 16)) := by
  have w := W.2.2.1
  have ip : vp_in (nI (p / 16)) 16 := vp_in_nI (by omega) (by decide)
  have h := yi_42 (fN := fN) (fT := fT) (fP := fP) (fc := fc) (fe := fe) (fr := fr) (fs := fs) (fp := fp) (fk := fk) (Ym := Ym) (E := E) (r0 := r0) (r1 := r1) (rc := rc) (F := F) (Yk := Yk) W hp hq h1 h0
  have h := yi_20 (by omega) h
  refine ⟨ip, ?_⟩
  rw [nI_clamp (n := p / 16) (by omega)]
  unfold hp_kk at h
  by_cases k : K (p / 16) = 1
  · rw [if_pos k] at h
    exact br_t k h
  · rw [if_neg k] at h
    exact br_f k ⟨ip, h⟩
theorem yi_fc10 (W : hp_W n c K L R) (hp : p / 16 < c) (hq : q ≤ p) (hv : hp_V n (q % 16)) (hS : hp_S K L R Yc p q) (hl : ∀ q', q' < q → hp_V n (q' % 16) → ¬ hp_S K L R Yc p q') (h : post (nI q)) :
    ∀ d j, j + d = q → wY_findCanon_10 post (nI (p / 16)) (nI (p % 16)) (nI p) (nI n) fT fP fc fe fr fs fp fk K L R Ym E r0 r1 rc F Yc Yk (d + 1) (nI j) := by
  have w := W.2.2.1
  intro d
  induction d with
  | zero =>
    intro j hj
    have e : j = q := by omega
    subst e
    refine br_f (nI_nlt hq (by omega)) ?_
    rw [ha_a15 (by omega), ha_s4 (by omega)]
    refine yi_vc W.2.1 (by omega) (fun _ => br_f (by decide) (yi_same W hp (by omega) (fun _ => br_f (by decide) h) (fun z => absurd hS z))) (fun z => absurd hv z)
  | succ d ih =>
    intro j hj
    have nx := nm_r (P := fun x => wY_findCanon_10 post (nI (p / 16)) (nI (p % 16)) (nI p) (nI n) fT fP fc fe fr fs fp fk K L R Ym E r0 r1 rc F Yc Yk (d + 1) x) (nI_1 j) (ih (j + 1) (by omega))
    refine br_f (nI_nlt (by omega) (by omega)) ?_
    rw [ha_a15 (by omega), ha_s4 (by omega)]
    refine yi_vc W.2.1 (by omega) (fun v => br_f (by decide) (yi_same W hp (by omega) (fun z => absurd z (hl j (by omega) v)) (fun _ => br_t rfl nx))) (fun _ => br_t rfl nx)
theorem yi_fc (W : hp_W n c K L R) (hp : p / 16 < c) (hq : q ≤ p) (hv : hp_V n (q % 16)) (hS : hp_S K L R Yc p q) (hl : ∀ q', q' < q → hp_V n (q' % 16) → ¬ hp_S K L R Yc p q') (h : post (nI q)) :
    wpY_findCanon post (nI n, fT, fP, fc, fe, fr, fs, fp, fk, K, L, R, Ym, E, r0, r1, rc, F, Yc, Yk) (nI (p / 16)) (nI (p % 16)) := by
  have e : nI (p / 16) * 16 + nI (p % 16) = nI p := by
    rw [ha_16, nI_add]
    exact congrArg nI (by omega)
  exact nm_r e ⟨_, yi_fc10 W hp hq hv hS hl h q 0 (by omega)⟩
end HYR
section HYF
variable {fN fT fP fc fe fr fs fp fk : Int32} {K L R Ym E r0 r1 rc F Yc Yk : Nat → Int32} {A M : Nat → Int32} {post : SY → Prop} {n c : Nat}
theorem yi_r58 (W : hp_W n c K L R) (hM : hp_M c K L R M) (hMt : ∀ h, 16 ≤ h → M h = 0) (hYm : ∀ h, 16 ≤ h → Ym h = 0) (h : post (nI n, fT, fP, nI c, fe, fr, fs, fp, fk, K, L, R, M, E, r0, r1, rc, F, Yc, Yk)) :
    ∃ f, wY_refresh_58 post (nI n) fT fP (nI c) fe fr fs fp fk f 0 K L R Ym E r0 r1 rc F Yc Yk := by
  have w := W.2.2.1
  refine pk_loop (fun f i s => wY_refresh_58 post (nI n) fT fP (nI c) fe fr fs fp fk f (nI i) K L R s E r0 r1 rc F Yc Yk) (fun i s => (∀ x, x < i → s x = M x) ∧ ∀ x, 16 ≤ x → s x = 0) 16 0 Ym (by omega) ⟨fun x hx => absurd hx (Nat.not_lt_zero x), hYm⟩ ?_ ?_
  · intro f s hs
    have e : s = M := funext fun x => by
      by_cases hx : x < 16
      · exact hs.1 x hx
      · rw [hs.2 x (by omega), hMt x (by omega)]
    subst e
    exact br_t (nI_le (a := 16) (b := 16) (by omega) (by decide)) h
  · intro f i s hi hs nx
    have hin : vp_in (nI i) 16 := vp_in_nI hi (by decide)
    have ec : (nI i).toNatClampNeg = i := nI_clamp (by omega)
    have hv : hp_mv c K L R s i = M i := by
      rw [hM i hi]
      exact hm_c W Iff.rfl (fun _ => ⟨rfl, rfl, rfl⟩) (fun x hx => hs.1 x hx)
    have go : ∀ v, v = hp_mv c K L R s i → (vp_in (nI i) 16 ∧ ∀ a, a = upd s (nI i).toNatClampNeg v → ∀ x, x = nI i + 1 → wY_refresh_58 post (nI n) fT fP (nI c) fe fr fs fp fk f x K L R a E r0 r1 rc F Yc Yk) := fun v ev => by
      refine ⟨hin, nm_r (e' := upd s i (M i)) (by rw [ec, ev, hv]) (nm_r (nI_1 i) (nx _ ⟨fun x hx => ?_, fun x hx => ?_⟩))⟩
      · by_cases e : x = i
        · subst e
          exact pk_us
        · rw [pk_un e]
          exact hs.1 x (by omega)
      · rw [pk_un (by omega)]
        exact hs.2 x hx
    refine br_f (nI_ge (b := 16) hi (by decide)) ?_
    by_cases hc : c ≤ i
    · exact br_t (nI_le hc (by omega)) (go 0 (if_pos (Or.inl hc)).symm)
    · refine br_f (nI_ge (by omega) (by omega)) ⟨hin, ?_⟩
      by_cases k0 : K i = 0
      · refine br_t (by rw [ec]; exact k0) (go 0 (if_pos (Or.inr k0)).symm)
      · have e0 : ¬ (c ≤ i ∨ K i = 0) := fun z => z.elim hc k0
        refine br_f (by rw [ec]; exact k0) ⟨hin, ?_⟩
        by_cases k1 : K i = 1
        · refine br_t (by rw [ec]; exact k1) ⟨hin, ?_⟩
          by_cases l0 : L i = 0
          · refine br_t (by rw [ec]; exact l0) (go 1 ?_)
            unfold hp_mv
            rw [if_neg e0, if_pos k1, if_pos l0]
          · refine br_f (by rw [ec]; exact l0) (go 2 ?_)
            unfold hp_mv
            rw [if_neg e0, if_pos k1, if_neg l0]
        · obtain ⟨_, ⟨l, hl, el⟩, h5⟩ := hw_na (fun z => z.elim k0 k1) W (by omega : i < c)
          have a1 : L (nI i).toNatClampNeg &&& 15 = nI l := by
            rw [ec, el, ha_a15 (by omega), Nat.mod_eq_of_lt (by omega)]
          refine br_f (by rw [ec]; exact k1) ⟨hin, ?_⟩
          by_cases k5 : K i = 5
          · refine br_t (by rw [ec]; exact k5) ⟨hin, by rw [a1]; exact vp_in_nI (by omega) (by decide), go _ ?_⟩
            unfold hp_mv
            rw [if_neg e0, if_neg k1, if_pos k5, a1, el]
          · refine br_f (by rw [ec]; exact k5) ⟨hin, by rw [a1]; exact vp_in_nI (by omega) (by decide), hin, ?_⟩
            rcases h5 with h5 | ⟨_, r, hr, er⟩
            · exact absurd h5.1 k5
            · have a2 : R (nI i).toNatClampNeg &&& 15 = nI r := by
                rw [ec, er, ha_a15 (by omega), Nat.mod_eq_of_lt (by omega)]
              refine ⟨by rw [a2]; exact vp_in_nI (by omega) (by decide), go _ ?_⟩
              unfold hp_mv
              rw [if_neg e0, if_neg k1, if_neg k5, a1, a2, el, er]
theorem yi_ref (W : hp_W n c K L R) (C : hp_C n c K L R A) (hA : ∀ p, 256 ≤ p → A p = 0) (hM : hp_M c K L R M) (hMt : ∀ h, 16 ≤ h → M h = 0) (hYc : ∀ p, 256 ≤ p → Yc p = 0) (hYm : ∀ h, 16 ≤ h → Ym h = 0) (h : post (nI n, fT, fP, nI c, fe, fr, fs, fp, fk, K, L, R, M, E, r0, r1, rc, F, A, Yk)) :
    wpY_refresh post (nI n, fT, fP, nI c, fe, fr, fs, fp, fk, K, L, R, Ym, E, r0, r1, rc, F, Yc, Yk) := by
  have w := W.2.2.1
  refine pk_loop (fun f i s => wY_refresh_2 post (nI n) fT fP (nI c) fe fr fs fp fk f (nI i) K L R Ym E r0 r1 rc F s Yk) (fun i s => (∀ x, x < i → s x = A x) ∧ ∀ x, 256 ≤ x → s x = 0) 256 0 Yc (by omega) ⟨fun x hx => absurd hx (Nat.not_lt_zero x), hYc⟩ ?_ ?_
  · intro f s hs
    have e : s = A := funext fun x => by
      by_cases hx : x < 256
      · exact hs.1 x hx
      · rw [hs.2 x (by omega), hA x (by omega)]
    subst e
    exact br_t (nI_le (a := 256) (b := 256) (by omega) (by decide)) (yi_r58 W hM hMt hYm h)
  · intro f i s hi hs nx
    have hin : vp_in (nI i) 256 := vp_in_nI hi (by decide)
    have ec : (nI i).toNatClampNeg = i := nI_clamp (by omega)
    have go : ∀ v, v = A i → (vp_in (nI i) 256 ∧ ∀ a, a = upd s (nI i).toNatClampNeg v → ∀ x, x = nI i + 1 → wY_refresh_2 post (nI n) fT fP (nI c) fe fr fs fp fk f x K L R Ym E r0 r1 rc F a Yk) := fun v ev => by
      refine ⟨hin, nm_r (e' := upd s i (A i)) (by rw [ec, ev]) (nm_r (nI_1 i) (nx _ ⟨fun x hx => ?_, fun x hx => ?_⟩))⟩
      · by_cases e : x = i
        · subst e
          exact pk_us
        · rw [pk_un e]
          exact hs.1 x (by omega)
      · rw [pk_un (by omega)]
        exact hs.2 x hx
    refine br_f (nI_ge (b := 256) hi (by decide)) (nm_r (ha_s4 (by omega)) (nm_r (ha_a15 (by omega)) ?_))
    have hQ := C i hi
    by_cases hc : c ≤ i / 16
    · exact br_t (nI_le hc (by omega)) (go (-1) (hQ.2 (fun z => by have := z.1; omega)).symm)
    · refine br_f (nI_ge (by omega) (by omega)) (yi_vc W.2.1 (by omega) (fun v => br_f (by decide) ?_) (fun v => br_t rfl (go (-1) (hQ.2 (fun z => v z.2)).symm)))
      obtain ⟨q, q1, q2, q3, q4, q5⟩ := hQ.1 (by omega) v
      have e : ∀ h, h < c → K h = K h ∧ L h = L h ∧ R h = R h := fun h _ => ⟨rfl, rfl, rfl⟩
      refine yi_fc W (by omega) q1 q3 (hs_c W e (by omega) q1 (fun x hx => hs.1 x hx) q4) (fun q' g1 g2 g3 => q5 q' g1 g2 (hs_c W e (by omega) (by omega) (fun x hx => (hs.1 x hx).symm) g3)) (go _ q2.symm)
end HYF
end
section
/-! the small methods -/
theorem hp_ix (x : Int32) {c : Nat} (hc : c < 1000) : (∃ j, j < c ∧ x = nI j) ∨ (x < 0 ∨ nI c ≤ x) := by
  rcases pk_ix x (n := c) (by omega) with h | h | h
  · exact Or.inr (Or.inl h)
  · exact Or.inr (Or.inr h)
  · exact Or.inl h
theorem hb_o {x : Int32} {n : Nat} {A B : Prop} (h : x < 0 ∨ nI n ≤ x) (a : A) : (x < 0 → A) ∧ (¬ x < 0 → ((nI n ≤ x → A) ∧ (¬ nI n ≤ x → B))) := by
  by_cases z : x < 0
  · exact br_t z a
  · exact br_f z (br_t (h.resolve_left z) a)
theorem hb_i {n j : Nat} {A B : Prop} (h : j < n) (hn : n < 1000) (b : B) : (nI j < 0 → A) ∧ (¬ nI j < 0 → ((nI n ≤ nI j → A) ∧ (¬ nI n ≤ nI j → B))) :=
  br_f (nI_pos (by omega)) (br_f (nI_ge h (by omega)) b)
theorem hb_o2 {x : Int32} {n : Nat} {A B : Prop} (h : x < 0 ∨ nI n ≤ x) (a : A) : (x < 0 → A) ∧ (¬ x < 0 → ((x < nI n → B) ∧ (¬ x < nI n → A))) := by
  by_cases z : x < 0
  · exact br_t z a
  · exact br_f z (br_f (Int32.not_lt.mpr (h.resolve_left z)) a)
theorem hb_i2 {n j : Nat} {A B : Prop} (h : j < n) (hn : n < 1000) (b : B) : (nI j < 0 → A) ∧ (¬ nI j < 0 → ((nI j < nI n → B) ∧ (¬ nI j < nI n → A))) :=
  br_f (nI_pos (by omega)) (br_t (nI_lt h (by omega)) b)
section HS
variable {fN fT fP fp fc fe fr fs fk : Int32} {K L R M A Z E r0 r1 rc F : Nat → Int32} {Ym Yc Yk : Nat → Int32} {post : Int32 → Prop} {n c j : Nat} {x : Int32}
theorem xi_h1 (h : j < c) (hc : c < 1000) (hp : post 1) : wpX_isHandle post (fN, fT, fP, fp, nI c, fe, fr, fs, fk, K, L, R, M, A, Z, E, r0, r1, rc, F) (nI j) := hb_i h hc hp
theorem xi_h0 (h : x < 0 ∨ nI c ≤ x) (hp : post 0) : wpX_isHandle post (fN, fT, fP, fp, nI c, fe, fr, fs, fk, K, L, R, M, A, Z, E, r0, r1, rc, F) x := hb_o h hp
theorem xi_n1 (h : j < n) (hc : n < 1000) (hp : post 1) : wpX_isName post (nI n, fT, fP, fp, fc, fe, fr, fs, fk, K, L, R, M, A, Z, E, r0, r1, rc, F) (nI j) := hb_i h hc hp
theorem xi_n0 (h : x < 0 ∨ nI n ≤ x) (hp : post 0) : wpX_isName post (nI n, fT, fP, fp, fc, fe, fr, fs, fk, K, L, R, M, A, Z, E, r0, r1, rc, F) x := hb_o h hp
theorem xi_s1 (h : j < n) (hc : n < 1000) (hp : post 1) : wpX_isStep post (fN, fT, fP, fp, fc, fe, fr, nI n, fk, K, L, R, M, A, Z, E, r0, r1, rc, F) (nI j) := hb_i h hc hp
theorem xi_s0 (h : x < 0 ∨ nI n ≤ x) (hp : post 0) : wpX_isStep post (fN, fT, fP, fp, fc, fe, fr, nI n, fk, K, L, R, M, A, Z, E, r0, r1, rc, F) x := hb_o h hp
theorem yi_h1 (h : j < c) (hc : c < 1000) (hp : post 1) : wpY_isHandle post (fN, fT, fP, nI c, fe, fr, fs, fp, fk, K, L, R, Ym, E, r0, r1, rc, F, Yc, Yk) (nI j) := hb_i h hc hp
theorem yi_h0 (h : x < 0 ∨ nI c ≤ x) (hp : post 0) : wpY_isHandle post (fN, fT, fP, nI c, fe, fr, fs, fp, fk, K, L, R, Ym, E, r0, r1, rc, F, Yc, Yk) x := hb_o h hp
theorem yi_s1 (h : j < n) (hc : n < 1000) (hp : post 1) : wpY_validStep post (fN, fT, fP, fc, fe, fr, nI n, fp, fk, K, L, R, Ym, E, r0, r1, rc, F, Yc, Yk) (nI j) := hb_i h hc hp
theorem yi_s0 (h : x < 0 ∨ nI n ≤ x) (hp : post 0) : wpY_validStep post (fN, fT, fP, fc, fe, fr, nI n, fp, fk, K, L, R, Ym, E, r0, r1, rc, F, Yc, Yk) x := hb_o h hp
end HS
section HJ
variable {n tm pm c ne nr ns : Nat} {ph kn : Int32} {K L R M A Z E r0 r1 rc F Ym Yc Yk : Nat → Int32}
theorem hj_ref (J : hp_J n tm pm c ne nr ns ph kn K L R M A Z E r0 r1 rc F Ym Yc Yk) : hp_J n tm pm c ne nr ns ph kn K L R M A Z E r0 r1 rc F M A Yk := ⟨J.1, J.2.1, J.2.2.1, ⟨J.2.1.2.1, J.2.1.2.2.2⟩, J.2.2.2.2⟩
theorem yj_ref {post : SY → Prop} (J : hp_J n tm pm c ne nr ns ph kn K L R M A Z E r0 r1 rc F Ym Yc Yk) {q : Int32} (h : post (nI n, nI tm, nI pm, nI c, nI ne, nI nr, nI ns, q, kn, K, L, R, M, E, r0, r1, rc, F, A, Yk)) : wpY_refresh post (nI n, nI tm, nI pm, nI c, nI ne, nI nr, nI ns, q, kn, K, L, R, Ym, E, r0, r1, rc, F, Yc, Yk) :=
  yi_ref J.1.1 J.2.1.1 J.2.1.2.1 J.2.1.2.2.1 J.2.1.2.2.2 J.2.2.2.1.1 J.2.2.2.1.2 h
theorem hj_b (J : hp_J n tm pm c ne nr ns ph kn K L R M A Z E r0 r1 rc F Ym Yc Yk) : n ≤ 4 ∧ n ≤ c ∧ c ≤ tm ∧ tm ≤ 16 ∧ pm ≤ 32 ∧ ne ≤ 8 ∧ nr ≤ 8 ∧ ns ≤ pm := ⟨J.1.1.2.1, J.1.2.1, J.1.2.2.1, J.1.2.2.2.1, J.1.2.2.2.2.1, J.1.2.2.2.2.2.1, J.1.2.2.2.2.2.2.1, J.1.2.2.2.2.2.2.2⟩
theorem hj_ph (J : hp_J n tm pm c ne nr ns ph kn K L R M A Z E r0 r1 rc F Ym Yc Yk) : ph = 0 ∨ ph = 1 := J.2.2.2.2.elim (fun z => Or.inl z.1) (fun z => Or.inr z.1)
end HJ
theorem i_vc_kindOf {k : Nat} {u : SX} {v : SY} (I : i_Rel k u v) (hk : k + 5 ≤ 2563) (v1 : Int32) : wpX_kindOf (fun r => wpY_kindOf (fun r' => r' = r ∧ i_Rel (k + 5) u v) v v1) u v1 := by
  have I' := I
  obtain ⟨n, tm, pm, c, ne, nr, ns, ph, kn, K, L, R, M, A, Z, E, r0, r1, rc, F, Ym, Yc, Yk, rfl, rfl, J⟩ := I
  obtain ⟨b1, b2, b3, b4, b5, b6, b7, b8⟩ := hj_b J
  unfold wpX_kindOf
  rcases hp_ix v1 (c := c) (by omega) with ⟨j, hj, rfl⟩ | h
  · have hin : vp_in (nI j) 16 := vp_in_nI (by omega) (by decide)
    refine xi_h1 hj (by omega) (br_f (by decide) ⟨hin, ?_⟩)
    unfold wpY_kindOf
    exact yi_h1 hj (by omega) (br_f (by decide) ⟨hin, rfl, I'⟩)
  · refine xi_h0 h (br_t rfl ?_)
    unfold wpY_kindOf
    exact yi_h0 h (br_t rfl ⟨rfl, I'⟩)
theorem i_vc_stepFact {k : Nat} {u : SX} {v : SY} (I : i_Rel k u v) (hk : k + 5 ≤ 2563) (v1 : Int32) : wpX_stepFact (fun r => wpY_stepFact (fun r' => r' = r ∧ i_Rel (k + 5) u v) v v1) u v1 := by
  have I' := I
  obtain ⟨n, tm, pm, c, ne, nr, ns, ph, kn, K, L, R, M, A, Z, E, r0, r1, rc, F, Ym, Yc, Yk, rfl, rfl, J⟩ := I
  obtain ⟨b1, b2, b3, b4, b5, b6, b7, b8⟩ := hj_b J
  unfold wpX_stepFact
  rcases hp_ix v1 (c := ns) (by omega) with ⟨j, hj, rfl⟩ | h
  · have hin : vp_in (nI j) 32 := vp_in_nI (by omega) (by decide)
    refine xi_s1 hj (by omega) (br_f (by decide) ⟨hin, ?_⟩)
    unfold wpY_stepFact
    exact yi_s1 hj (by omega) (br_f (by decide) ⟨hin, rfl, I'⟩)
  · refine xi_s0 h (br_t rfl ?_)
    unfold wpY_stepFact
    exact yi_s0 h (br_t rfl ⟨rfl, I'⟩)
theorem i_vc_child {k : Nat} {u : SX} {v : SY} (I : i_Rel k u v) (hk : k + 5 ≤ 2563) (v1 : Int32) (v2 : Int32) : wpX_child (fun r => wpY_child (fun r' => r' = r ∧ i_Rel (k + 5) u v) v v1 v2) u v1 v2 := by
  have I' := I
  obtain ⟨n, tm, pm, c, ne, nr, ns, ph, kn, K, L, R, M, A, Z, E, r0, r1, rc, F, Ym, Yc, Yk, rfl, rfl, J⟩ := I
  obtain ⟨b1, b2, b3, b4, b5, b6, b7, b8⟩ := hj_b J
  unfold wpX_child
  rcases hp_ix v1 (c := c) (by omega) with ⟨j, hj, rfl⟩ | h
  · have hin : vp_in (nI j) 16 := vp_in_nI (by omega) (by decide)
    by_cases h0 : v2 = 0
    · refine xi_h1 hj (by omega) (br_f (by decide) (br_t h0 (br_t h0 ⟨hin, ?_⟩)))
      unfold wpY_child
      exact yi_h1 hj (by omega) (br_f (by decide) (br_t h0 (br_t h0 ⟨hin, rfl, I'⟩)))
    · by_cases h1 : v2 = 1
      · refine xi_h1 hj (by omega) (br_f (by decide) (br_f h0 (br_t h1 (br_f h0 ⟨hin, ?_⟩))))
        unfold wpY_child
        exact yi_h1 hj (by omega) (br_f (by decide) (br_f h0 (br_t h1 (br_f h0 ⟨hin, rfl, I'⟩))))
      · refine xi_h1 hj (by omega) (br_f (by decide) (br_f h0 (br_f h1 ?_)))
        unfold wpY_child
        exact yi_h1 hj (by omega) (br_f (by decide) (br_f h0 (br_f h1 ⟨rfl, I'⟩)))
  · refine xi_h0 h (br_t rfl ?_)
    unfold wpY_child
    exact yi_h0 h (br_t rfl ⟨rfl, I'⟩)
theorem i_vc_entry {k : Nat} {u : SX} {v : SY} (I : i_Rel k u v) (hk : k + 5 ≤ 2563) (v1 : Int32) : wpX_entry (fun r => wpY_entry (fun r' => r' = r ∧ i_Rel (k + 5) u v) v v1) u v1 := by
  have I' := I
  obtain ⟨n, tm, pm, c, ne, nr, ns, ph, kn, K, L, R, M, A, Z, E, r0, r1, rc, F, Ym, Yc, Yk, rfl, rfl, J⟩ := I
  obtain ⟨b1, b2, b3, b4, b5, b6, b7, b8⟩ := hj_b J
  rcases hp_ix v1 (c := ne) (by omega) with ⟨j, hj, rfl⟩ | h
  · have hin : vp_in (nI j) 8 := vp_in_nI (by omega) (by decide)
    exact hb_i hj (by omega) ⟨hin, hb_i hj (by omega) ⟨hin, rfl, I'⟩⟩
  · exact hb_o h (hb_o h ⟨rfl, I'⟩)
theorem i_vc_ruleTerm {k : Nat} {u : SX} {v : SY} (I : i_Rel k u v) (hk : k + 5 ≤ 2563) (v1 : Int32) (v2 : Int32) : wpX_ruleTerm (fun r => wpY_ruleTerm (fun r' => r' = r ∧ i_Rel (k + 5) u v) v v1 v2) u v1 v2 := by
  have I' := I
  obtain ⟨n, tm, pm, c, ne, nr, ns, ph, kn, K, L, R, M, A, Z, E, r0, r1, rc, F, Ym, Yc, Yk, rfl, rfl, J⟩ := I
  obtain ⟨b1, b2, b3, b4, b5, b6, b7, b8⟩ := hj_b J
  rcases hp_ix v1 (c := nr) (by omega) with ⟨j, hj, rfl⟩ | h
  · have hin : vp_in (nI j) 8 := vp_in_nI (by omega) (by decide)
    rcases hp_ix v2 (c := 3) (by omega) with ⟨i, hi, rfl⟩ | h2
    · have i0 : ¬ nI i < 0 := nI_pos (by omega)
      have i1 : ¬ (2 : Int32) < nI i := nI_nlt (b := i) (a := 2) (by omega) (by omega)
      have i2 : nI i ≤ (2 : Int32) := nI_le (a := i) (b := 2) (by omega) (by omega)
      refine hb_i2 hj (by omega) (br_f i0 (br_f i1 ?_))
      obtain rfl | rfl | rfl : i = 0 ∨ i = 1 ∨ i = 2 := by omega
      · exact br_t rfl ⟨hin, hb_i2 hj (by omega) (br_f i0 (br_t i2 (br_t rfl ⟨hin, rfl, I'⟩)))⟩
      · exact br_f (by decide) (br_t rfl ⟨hin, hb_i2 hj (by omega) (br_f i0 (br_t i2 (br_f (by decide) (br_t rfl ⟨hin, rfl, I'⟩))))⟩)
      · exact br_f (by decide) (br_f (by decide) (br_t rfl ⟨hin, hb_i2 hj (by omega) (br_f i0 (br_t i2 (br_f (by decide) (br_f (by decide) ⟨hin, rfl, I'⟩))))⟩))
    · by_cases z : v2 < 0
      · exact hb_i2 hj (by omega) (br_t z (hb_i2 hj (by omega) (br_t z ⟨rfl, I'⟩)))
      · have z3 : nI 3 ≤ v2 := h2.resolve_left z
        have z2 : (2 : Int32) < v2 := Int32.lt_of_lt_of_le (nI_lt (a := 2) (b := 3) (by omega) (by omega)) z3
        exact hb_i2 hj (by omega) (br_f z (br_t z2 (hb_i2 hj (by omega) (br_f z (br_f (Int32.not_le.mpr z2) ⟨rfl, I'⟩)))))
  · exact hb_o2 h (hb_o2 h ⟨rfl, I'⟩)
end
section
/-! groundId, rank, count, know -/
section HG
variable {n tm pm c ne nr ns : Nat} {ph kn : Int32} {K L R M A Z E r0 r1 rc F Ym Yc Yk : Nat → Int32}
theorem xg_id {post : Int32 → Prop} {j a b : Nat} (hc : c ≤ 16) (hn : n ≤ 4) (hj : j < c) (ha : a < n) (hb : b < n) (h : post (A (j * 16 + (4 * b + a)))) : wpX_groundId post (nI n, nI tm, nI pm, ph, nI c, nI ne, nI nr, nI ns, kn, K, L, R, M, A, Z, E, r0, r1, rc, F) (nI j) (nI a) (nI b) := by
  unfold wpX_groundId
  refine xi_h1 hj (by omega) (br_f (by decide) (xi_n1 ha (by omega) (br_f (by decide) (xi_n1 hb (by omega) (br_f (by decide) ?_)))))
  have e : nI j * 16 + nI a + 4 * nI b = nI (j * 16 + (4 * b + a)) := by
    rw [ha_16, ha_4, nI_add, nI_add]
    exact congrArg nI (by omega)
  rw [e, nI_clamp (by omega)]
  exact ⟨vp_in_nI (by omega) (by decide), h⟩
theorem xg_h {post : Int32 → Prop} {x y z : Int32} (h : x < 0 ∨ nI c ≤ x) (hp : post (-5)) : wpX_groundId post (nI n, nI tm, nI pm, ph, nI c, nI ne, nI nr, nI ns, kn, K, L, R, M, A, Z, E, r0, r1, rc, F) x y z := by
  unfold wpX_groundId
  exact xi_h0 h (br_t rfl hp)
theorem xg_x {post : Int32 → Prop} {y z : Int32} {j : Nat} (hc : c ≤ 16) (hj : j < c) (h : y < 0 ∨ nI n ≤ y) (hp : post (-4)) : wpX_groundId post (nI n, nI tm, nI pm, ph, nI c, nI ne, nI nr, nI ns, kn, K, L, R, M, A, Z, E, r0, r1, rc, F) (nI j) y z := by
  unfold wpX_groundId
  exact xi_h1 hj (by omega) (br_f (by decide) (xi_n0 h (br_t rfl hp)))
theorem xg_y {post : Int32 → Prop} {z : Int32} {j a : Nat} (hc : c ≤ 16) (hn : n ≤ 4) (hj : j < c) (ha : a < n) (h : z < 0 ∨ nI n ≤ z) (hp : post (-4)) : wpX_groundId post (nI n, nI tm, nI pm, ph, nI c, nI ne, nI nr, nI ns, kn, K, L, R, M, A, Z, E, r0, r1, rc, F) (nI j) (nI a) z := by
  unfold wpX_groundId
  exact xi_h1 hj (by omega) (br_f (by decide) (xi_n1 ha (by omega) (br_f (by decide) (xi_n0 h (br_t rfl hp)))))
/-- how many ground ids there are -/
def hp_w (A : Nat → Int32) : Nat → Nat
  | 0 => 0
  | m + 1 => hp_w A m + (if A m = nI m then 1 else 0)
theorem hw_le (m : Nat) : hp_w A m ≤ m := by
  induction m with
  | zero => exact Nat.le_refl _
  | succ m ih =>
    show hp_w A m + (if A m = nI m then 1 else 0) ≤ m + 1
    split <;> omega
theorem xu_4 {post : Int32 → Prop} (h : post (nI (hp_w A 256))) : wpX_universeSize post (nI n, nI tm, nI pm, ph, nI c, nI ne, nI nr, nI ns, kn, K, L, R, M, A, Z, E, r0, r1, rc, F) := by
  refine pk_loop (fun f i (_ : Unit) => wX_universeSize_4 post (nI n) (nI tm) (nI pm) ph (nI c) (nI ne) (nI nr) (nI ns) kn K L R M A Z E r0 r1 rc F f (nI (hp_w A i)) (nI i)) (fun _ _ => True) 256 0 () (by omega) trivial ?_ ?_
  · intro f s _
    exact br_t (nI_le (a := 256) (b := 256) (by omega) (by decide)) h
  · intro f i s hi _ nx
    have nx := nx () trivial
    refine br_f (nI_ge (b := 256) hi (by decide)) (xi_gid hi (fun e => br_f (by decide) ?_) (fun e => br_t rfl ?_))
    · rw [show hp_w A (i + 1) = hp_w A i + 1 from congrArg (hp_w A i + ·) (if_pos e)] at nx
      exact nm_r (nI_1 _) (nm_r (nI_1 i) nx)
    · rw [show hp_w A (i + 1) = hp_w A i from congrArg (hp_w A i + ·) (if_neg e)] at nx
      exact nm_r (nI_1 i) nx
theorem yu_75 {post : Int32 → SY → Prop} (h : post (nI (hp_w A 256)) (nI n, nI tm, nI pm, nI c, nI ne, nI nr, nI ns, ph, kn, K, L, R, M, E, r0, r1, rc, F, A, Yk)) : ∃ f, wY_count_75 post (nI n) (nI tm) (nI pm) (nI c) (nI ne) (nI nr) (nI ns) ph kn K L R M E r0 r1 rc F A Yk f 0 0 := by
  refine pk_loop (fun f i (_ : Unit) => wY_count_75 post (nI n) (nI tm) (nI pm) (nI c) (nI ne) (nI nr) (nI ns) ph kn K L R M E r0 r1 rc F A Yk f (nI (hp_w A i)) (nI i)) (fun _ _ => True) 256 0 () (by omega) trivial ?_ ?_
  · intro f s _
    exact br_t (nI_le (a := 256) (b := 256) (by omega) (by decide)) h
  · intro f i s hi _ nx
    have nx := nx () trivial
    refine br_f (nI_ge (b := 256) hi (by decide)) ⟨vp_in_nI hi (by decide), ?_⟩
    rw [nI_clamp (by omega)]
    by_cases e : A i = nI i
    · rw [show hp_w A (i + 1) = hp_w A i + 1 from congrArg (hp_w A i + ·) (if_pos e)] at nx
      exact br_t e (nm_r (nI_1 _) (nm_r (nI_1 i) nx))
    · rw [show hp_w A (i + 1) = hp_w A i from congrArg (hp_w A i + ·) (if_neg e)] at nx
      exact br_f e (nm_r (nI_1 i) nx)
end HG
theorem i_vc_groundId {k : Nat} {u : SX} {v : SY} (I : i_Rel k u v) (hk : k + 5 ≤ 2563) (v1 : Int32) (v2 : Int32) (v3 : Int32) : wpX_groundId (fun r => wpY_groundId (fun r' v' => r' = r ∧ i_Rel (k + 5) u v') v v1 v2 v3) u v1 v2 v3 := by
  have I' := I
  obtain ⟨n, tm, pm, c, ne, nr, ns, ph, kn, K, L, R, M, A, Z, E, r0, r1, rc, F, Ym, Yc, Yk, rfl, rfl, J⟩ := I
  obtain ⟨b1, b2, b3, b4, b5, b6, b7, b8⟩ := hj_b J
  have I2 := hj_mk (k := k + 5) (hj_ref J)
  rcases hp_ix v1 (c := c) (by omega) with ⟨j, hj, rfl⟩ | h
  · rcases hp_ix v2 (c := n) (by omega) with ⟨a, ha, rfl⟩ | h2
    · rcases hp_ix v3 (c := n) (by omega) with ⟨b, hb, rfl⟩ | h3
      · refine xg_id (by omega) b1 hj ha hb ?_
        unfold wpY_groundId
        refine yi_h1 hj (by omega) (br_f (by decide) (hb_i ha (by omega) (hb_i2 hb (by omega) (yj_ref J ?_))))
        have e : nI j * 16 + nI a + 4 * nI b = nI (j * 16 + (4 * b + a)) := by
          rw [ha_16, ha_4, nI_add, nI_add]
          exact congrArg nI (by omega)
        show vp_in (nI j * 16 + nI a + 4 * nI b) 256 ∧ (A (nI j * 16 + nI a + 4 * nI b).toNatClampNeg = A (j * 16 + (4 * b + a)) ∧ _)
        rw [e, nI_clamp (by omega)]
        exact ⟨vp_in_nI (by omega) (by decide), rfl, I2⟩
      · refine xg_y (by omega) b1 hj ha h3 ?_
        unfold wpY_groundId
        exact yi_h1 hj (by omega) (br_f (by decide) (hb_i ha (by omega) (hb_o2 h3 ⟨rfl, I'⟩)))
    · refine xg_x (by omega) hj h2 ?_
      unfold wpY_groundId
      exact yi_h1 hj (by omega) (br_f (by decide) (hb_o h2 ⟨rfl, I'⟩))
  · refine xg_h h ?_
    unfold wpY_groundId
    exact yi_h0 h (br_t rfl ⟨rfl, I'⟩)
theorem i_vc_rank {k : Nat} {u : SX} {v : SY} (I : i_Rel k u v) (hk : k + 5 ≤ 2563) (v1 : Int32) (v2 : Int32) (v3 : Int32) : wpX_rank (fun r => wpY_rank (fun r' v' => r' = r ∧ i_Rel (k + 5) u v') v v1 v2 v3) u v1 v2 v3 := by
  have I' := I
  obtain ⟨n, tm, pm, c, ne, nr, ns, ph, kn, K, L, R, M, A, Z, E, r0, r1, rc, F, Ym, Yc, Yk, rfl, rfl, J⟩ := I
  obtain ⟨b1, b2, b3, b4, b5, b6, b7, b8⟩ := hj_b J
  have I2 := hj_mk (k := k + 5) (hj_ref J)
  rcases J.2.2.2.2 with ⟨p0, _⟩ | ⟨p1, hz, hr⟩
  · exact br_t p0 (br_t p0 ⟨rfl, I'⟩)
  · have q0 : ¬ ph = 0 := by rw [p1]; decide
    refine br_f q0 ?_
    rcases hp_ix v1 (c := c) (by omega) with ⟨j, hj, rfl⟩ | h
    · rcases hp_ix v2 (c := n) (by omega) with ⟨a, ha, rfl⟩ | h2
      · rcases hp_ix v3 (c := n) (by omega) with ⟨b, hb, rfl⟩ | h3
        · have e : nI j * 16 + nI a + 4 * nI b = nI (j * 16 + (4 * b + a)) := by
            rw [ha_16, ha_4, nI_add, nI_add]
            exact congrArg nI (by omega)
          have e2 : (j * 16 + (4 * b + a)) % 16 = 4 * b + a := by omega
          obtain ⟨x, x1, x2, _, _⟩ := hc_p J.1.1 J.2.1.1 (t := j * 16 + (4 * b + a)) ⟨by omega, by rw [e2]; exact ⟨by omega, by omega⟩⟩
          have hin : vp_in (nI x) 256 := vp_in_nI x1 (by decide)
          have hcl : (nI x).toNatClampNeg = x := nI_clamp (by omega)
          refine xg_id (by omega) b1 hj ha hb ?_
          rw [x2]
          refine br_t (nI_pos' (by omega)) ⟨hin, ?_⟩
          refine br_f q0 (yi_h1 hj (by omega) (br_f (by decide) (hb_i ha (by omega) (hb_i2 hb (by omega) (yj_ref J ?_)))))
          refine ⟨?_, ?_⟩
          · rw [e]
            exact vp_in_nI (by omega) (by decide)
          · rw [e, nI_clamp (by omega), x2]
            refine nm_e (br_f (nI_pos (by omega)) ⟨hin, ?_⟩)
            rw [hz] at I2
            rw [hcl, hz]
            rcases hr x x1 with y | ⟨i, i1, i2⟩
            · refine br_f (by rw [y]; decide) ⟨y.symm, I2⟩
            · refine br_t (by rw [i2]; exact nI_pos' (by omega)) ⟨hin, rfl, I2⟩
        · exact xg_y (by omega) b1 hj ha h3 (br_f (by decide) (br_f q0 (yi_h1 hj (by omega) (br_f (by decide) (hb_i ha (by omega) (hb_o2 h3 ⟨rfl, I'⟩))))))
      · exact xg_x (by omega) hj h2 (br_f (by decide) (br_f q0 (yi_h1 hj (by omega) (br_f (by decide) (hb_o h2 ⟨rfl, I'⟩)))))
    · exact xg_h h (br_f (by decide) (br_f q0 (yi_h0 h (br_t rfl ⟨rfl, I'⟩))))
theorem i_vc_count {k : Nat} {u : SX} {v : SY} (I : i_Rel k u v) (hk : k + 5 ≤ 2563) (v1 : Int32) : wpX_count (fun r => wpY_count (fun r' v' => r' = r ∧ i_Rel (k + 5) u v') v v1) u v1 := by
  have I' := I
  obtain ⟨n, tm, pm, c, ne, nr, ns, ph, kn, K, L, R, M, A, Z, E, r0, r1, rc, F, Ym, Yc, Yk, rfl, rfl, J⟩ := I
  obtain ⟨b1, b2, b3, b4, b5, b6, b7, b8⟩ := hj_b J
  have I2 := hj_mk (k := k + 5) (hj_ref J)
  rcases hp_ix v1 (c := 7) (by omega) with ⟨i, hi, rfl⟩ | h2
  · have i0 : ¬ nI i < 0 := nI_pos (by omega)
    have i1 : ¬ (6 : Int32) < nI i := nI_nlt (b := i) (a := 6) (by omega) (by omega)
    have i2 : nI i ≤ (6 : Int32) := nI_le (a := i) (b := 6) (by omega) (by omega)
    refine br_f i0 (br_f i1 ?_)
    obtain rfl | rfl | rfl | rfl | rfl | rfl | rfl : i = 0 ∨ i = 1 ∨ i = 2 ∨ i = 3 ∨ i = 4 ∨ i = 5 ∨ i = 6 := by omega
    · exact br_t rfl (br_f i0 (br_t i2 (br_t rfl ⟨rfl, I'⟩)))
    · exact br_f (by decide) (br_t rfl (br_f i0 (br_t i2 (br_f (by decide) (br_t rfl ⟨rfl, I'⟩)))))
    · exact br_f (by decide) (br_f (by decide) (br_t rfl (br_f i0 (br_t i2 (br_f (by decide) (br_f (by decide) (br_t rfl ⟨rfl, I'⟩)))))))
    · exact br_f (by decide) (br_f (by decide) (br_f (by decide) (br_t rfl (br_f i0 (br_t i2 (br_f (by decide) (br_f (by decide) (br_f (by decide) (br_t rfl ⟨rfl, I'⟩)))))))))
    · exact br_f (by decide) (br_f (by decide) (br_f (by decide) (br_f (by decide) (br_t rfl (br_f i0 (br_t i2 (br_f (by decide) (br_f (by decide) (br_f (by decide) (br_f (by decide) (br_t rfl ⟨rfl, I'⟩)))))))))))
    · exact br_f (by decide) (br_f (by decide) (br_f (by decide) (br_f (by decide) (br_f (by decide) (br_t rfl (xu_4 (br_f i0 (br_t i2 (br_f (by decide) (br_f (by decide) (br_f (by decide) (br_f (by decide) (br_f (by decide) (br_t rfl (yj_ref J (yu_75 ⟨rfl, I2⟩))))))))))))))))
    · refine br_f (by decide) (br_f (by decide) (br_f (by decide) (br_f (by decide) (br_f (by decide) (br_f (by decide) (br_t rfl ?_))))))
      rcases hj_ph J with p | p
      · exact br_t p (br_f i0 (br_t i2 (br_f (by decide) (br_f (by decide) (br_f (by decide) (br_f (by decide) (br_f (by decide) (br_f (by decide) (br_t p ⟨rfl, I'⟩)))))))))
      · have q : ¬ ph = 0 := by rw [p]; decide
        exact br_f q (br_f i0 (br_t i2 (br_f (by decide) (br_f (by decide) (br_f (by decide) (br_f (by decide) (br_f (by decide) (br_f (by decide) (br_f q ⟨rfl, I'⟩)))))))))
  · by_cases z : v1 < 0
    · exact br_t z (br_t z ⟨rfl, I'⟩)
    · have z2 : (6 : Int32) < v1 := Int32.lt_of_lt_of_le (nI_lt (a := 6) (b := 7) (by omega) (by omega)) (h2.resolve_left z)
      exact br_f z (br_t z2 (br_f z (br_f (Int32.not_le.mpr z2) ⟨rfl, I'⟩)))
theorem i_vc_know {k : Nat} {u : SX} {v : SY} (I : i_Rel k u v) (hk : k + 5 ≤ 2563) (v1 : Int32) : wpX_know (fun r u' => wpY_know (fun r' v' => r' = r ∧ i_Rel (k + 5) u' v') v v1) u v1 := by
  have I' := I
  obtain ⟨n, tm, pm, c, ne, nr, ns, ph, kn, K, L, R, M, A, Z, E, r0, r1, rc, F, Ym, Yc, Yk, rfl, rfl, J⟩ := I
  obtain ⟨b1, b2, b3, b4, b5, b6, b7, b8⟩ := hj_b J
  have I2 := hj_mk (k := k + 5) (hj_ref J)
  rcases hj_ph J with p | p
  · have q : ¬ ph = 1 := by rw [p]; decide
    refine br_f q ?_
    rcases hp_ix v1 (c := c) (by omega) with ⟨j, hj, rfl⟩ | h
    · have hin : vp_in (nI j) 16 := vp_in_nI (by omega) (by decide)
      have hcl : (nI j).toNatClampNeg = j := nI_clamp (by omega)
      refine xi_h1 hj (by omega) (br_f (by decide) ⟨hin, ?_⟩)
      rw [hcl]
      by_cases m0 : M j = 0
      · refine br_t m0 ?_
        by_cases full : ne < 8
        · have f1 : nI ne < 8 := nI_lt (b := 8) full (by decide)
          have fin : vp_in (nI ne) 8 := vp_in_nI full (by decide)
          have fcl : (nI ne).toNatClampNeg = ne := nI_clamp (by omega)
          refine br_t f1 ⟨fin, nm_r (e' := upd E ne (nI j)) (by rw [fcl]) (nm_r (nI_1 ne) ?_)⟩
          refine br_f q (yi_h1 hj (by omega) (br_f (by decide) (yj_ref J ⟨hin, br_t (by rw [hcl]; exact m0) (br_t f1 ⟨fin, nm_r (e' := upd E ne (nI j)) (by rw [fcl]) (nm_r (nI_1 ne) ⟨nI_pred ne, ?_⟩)⟩)⟩)))
          refine hj_mk ⟨⟨J.1.1, b2, b3, b4, b5, by omega, b7, b8⟩, J.2.1, ⟨?_, J.2.2.1.2.1, J.2.2.1.2.2⟩, ⟨J.2.1.2.1, J.2.1.2.2.2⟩, J.2.2.2.2⟩
          intro e he
          by_cases e1 : e = ne
          · subst e1
            exact ⟨j, hj, pk_us⟩
          · obtain ⟨h0, h1, h2⟩ := J.2.2.1.1 e (by omega)
            exact ⟨h0, h1, by rw [pk_un e1]; exact h2⟩
        · have f1 : ¬ nI ne < 8 := nI_nlt (b := 8) (by omega) (by omega)
          exact br_f f1 (br_f q (yi_h1 hj (by omega) (br_f (by decide) (yj_ref J ⟨hin, br_t (by rw [hcl]; exact m0) (br_f f1 ⟨rfl, I2⟩)⟩))))
      · exact br_f m0 (br_f q (yi_h1 hj (by omega) (br_f (by decide) (yj_ref J ⟨hin, br_f (by rw [hcl]; exact m0) ⟨rfl, I2⟩⟩))))
    · exact xi_h0 h (br_t rfl (br_f q (yi_h0 h (br_t rfl ⟨rfl, I'⟩))))
  · exact br_t p (br_t p ⟨rfl, I'⟩)
end
section
/-! rule -/
theorem hb_zo (a : Int32) : (0 : Int32) ||| a = a := by simp
theorem hb_oz (a : Int32) : a ||| (0 : Int32) = a := by simp
/-- a premise that may be given: none, or a handle; b: its variables -/
def hp_pm (c : Nat) (M : Nat → Int32) (x b : Int32) : Prop := (x = -1 ∧ b = 0) ∨ ∃ j, j < c ∧ x = nI j ∧ b = M j
def hp_r1 (x y : Int32) : Int32 := if x = -1 then y else x
def hp_r2 (x y : Int32) : Int32 := if x = -1 then -1 else y
section HU
variable {n tm pm c ne nr ns : Nat} {ph kn : Int32} {K L R M A Z E r0 r1 rc F Ym Yc Yk : Nat → Int32} {x y b1 b2 : Int32} {j : Nat}
theorem xr_155 {post : Int32 → SX → Prop} {z w : Int32} (h8 : nr < 8) (h : post (nI nr) (nI n, nI tm, nI pm, ph, nI c, nI ne, nI (nr + 1), nI ns, kn, K, L, R, M, A, Z, E, r0, upd r1 nr z, upd rc nr w, F)) : wX_rule_155 post w (nI nr) z (nI nr) (nI n) (nI tm) (nI pm) ph (nI c) (nI ne) (nI nr) (nI ns) kn K L R M A Z E r0 r1 rc F := by
  have fin : vp_in (nI nr) 8 := vp_in_nI h8 (by decide)
  have fcl : (nI nr).toNatClampNeg = nr := nI_clamp (by omega)
  exact ⟨fin, nm_r (e' := upd r1 nr z) (by rw [fcl]) ⟨fin, nm_r (e' := upd rc nr w) (by rw [fcl]) (nm_r (nI_1 nr) h)⟩⟩
theorem xr_138 {post : Int32 → SX → Prop} {z w : Int32} (h8 : nr < 8) (h : post (nI nr) (nI n, nI tm, nI pm, ph, nI c, nI ne, nI (nr + 1), nI ns, kn, K, L, R, M, A, Z, E, upd r0 nr z, upd r1 nr (hp_r2 x y), upd rc nr w, F)) : wX_rule_138 post x y w (nI nr) z (nI nr) (nI n) (nI tm) (nI pm) ph (nI c) (nI ne) (nI nr) (nI ns) kn K L R M A Z E r0 r1 rc F := by
  have fin : vp_in (nI nr) 8 := vp_in_nI h8 (by decide)
  have fcl : (nI nr).toNatClampNeg = nr := nI_clamp (by omega)
  refine ⟨fin, nm_r (e' := upd r0 nr z) (by rw [fcl]) ?_⟩
  unfold hp_r2 at h
  by_cases e : x = -1
  · rw [if_pos e] at h
    exact br_t e (xr_155 h8 h)
  · rw [if_neg e] at h
    exact br_f e (xr_155 h8 h)
theorem xr_84 {post : Int32 → SX → Prop} (hj : j < 16) (hn : nr ≤ 8)
    (h : if M j &&& ((b1 ||| b2) ^^^ (-1)) = 0 then (if nr < 8 then post (nI nr) (nI n, nI tm, nI pm, ph, nI c, nI ne, nI (nr + 1), nI ns, kn, K, L, R, M, A, Z, E, upd r0 nr (hp_r1 x y), upd r1 nr (hp_r2 x y), upd rc nr (nI j), F) else post (-6) (nI n, nI tm, nI pm, ph, nI c, nI ne, nI nr, nI ns, kn, K, L, R, M, A, Z, E, r0, r1, rc, F)) else post (-8) (nI n, nI tm, nI pm, ph, nI c, nI ne, nI nr, nI ns, kn, K, L, R, M, A, Z, E, r0, r1, rc, F)) :
    wX_rule_84 post x y (nI j) b2 b1 (nI n) (nI tm) (nI pm) ph (nI c) (nI ne) (nI nr) (nI ns) kn K L R M A Z E r0 r1 rc F := by
  have hcl : (nI j).toNatClampNeg = j := nI_clamp (by omega)
  refine nm_e ⟨vp_in_nI hj (by decide), ?_⟩
  rw [hcl]
  by_cases e : M j &&& ((b1 ||| b2) ^^^ (-1)) = 0
  · rw [if_pos e] at h
    refine br_t e ?_
    by_cases h8 : nr < 8
    · rw [if_pos h8] at h
      refine br_t (nI_lt (b := 8) h8 (by decide)) ?_
      unfold hp_r1 at h
      by_cases e1 : x = -1
      · rw [if_pos e1] at h
        exact br_t e1 (xr_138 h8 h)
      · rw [if_neg e1] at h
        exact br_f e1 (xr_138 h8 h)
    · rw [if_neg h8] at h
      exact br_f (nI_nlt (b := 8) (by omega) (by omega)) h
  · rw [if_neg e] at h
    exact br_f e h
theorem xr_27 {post : Int32 → SX → Prop} (hc : c ≤ 16) (hj : j < c) (hn : nr ≤ 8) (p1 : hp_pm c M x b1) (p2 : hp_pm c M y b2)
    (h : if M j &&& ((b1 ||| b2) ^^^ (-1)) = 0 then (if nr < 8 then post (nI nr) (nI n, nI tm, nI pm, ph, nI c, nI ne, nI (nr + 1), nI ns, kn, K, L, R, M, A, Z, E, upd r0 nr (hp_r1 x y), upd r1 nr (hp_r2 x y), upd rc nr (nI j), F) else post (-6) (nI n, nI tm, nI pm, ph, nI c, nI ne, nI nr, nI ns, kn, K, L, R, M, A, Z, E, r0, r1, rc, F)) else post (-8) (nI n, nI tm, nI pm, ph, nI c, nI ne, nI nr, nI ns, kn, K, L, R, M, A, Z, E, r0, r1, rc, F)) :
    wX_rule_27 post x y (nI j) (nI n) (nI tm) (nI pm) ph (nI c) (nI ne) (nI nr) (nI ns) kn K L R M A Z E r0 r1 rc F := by
  have h69 : wX_rule_69 post x y (nI j) b1 (nI n) (nI tm) (nI pm) ph (nI c) (nI ne) (nI nr) (nI ns) kn K L R M A Z E r0 r1 rc F := by
    rcases p2 with ⟨rfl, rfl⟩ | ⟨i, hi, rfl, rfl⟩
    · exact br_t rfl (xr_84 (by omega) hn h)
    · have hcl : (nI i).toNatClampNeg = i := nI_clamp (by omega)
      refine br_f (ha_ne1 (by omega)) ⟨vp_in_nI (by omega) (by decide), ?_⟩
      rw [hcl]
      exact xr_84 (by omega) hn h
  have h43 : wX_rule_43 post x y (nI j) (nI n) (nI tm) (nI pm) ph (nI c) (nI ne) (nI nr) (nI ns) kn K L R M A Z E r0 r1 rc F := by
    unfold wX_rule_43
    refine xi_h1 hj (by omega) (br_f (by decide) ?_)
    rcases p1 with ⟨rfl, rfl⟩ | ⟨i, hi, rfl, rfl⟩
    · exact br_t rfl h69
    · have hcl : (nI i).toNatClampNeg = i := nI_clamp (by omega)
      refine br_f (ha_ne1 (by omega)) ⟨vp_in_nI (by omega) (by decide), ?_⟩
      rw [hcl]
      exact h69
  rcases p2 with ⟨rfl, _⟩ | ⟨i, hi, rfl, _⟩
  · exact br_t rfl h43
  · exact br_f (ha_ne1 (by omega)) (xi_h1 hi (by omega) (br_f (by decide) h43))
theorem yr_159 {post : Int32 → SY → Prop} {z w : Int32} (h8 : nr < 8) (h : post (nI nr) (nI n, nI tm, nI pm, nI c, nI ne, nI (nr + 1), nI ns, ph, kn, K, L, R, Ym, E, r0, upd r1 nr z, upd rc nr w, F, Yc, Yk)) : wY_rule_159 post w z (nI nr) (nI n) (nI tm) (nI pm) (nI c) (nI ne) (nI nr) (nI ns) ph kn K L R Ym E r0 r1 rc F Yc Yk := by
  have fin : vp_in (nI nr) 8 := vp_in_nI h8 (by decide)
  have fcl : (nI nr).toNatClampNeg = nr := nI_clamp (by omega)
  refine ⟨fin, nm_r (e' := upd r1 nr z) (by rw [fcl]) ⟨fin, nm_r (e' := upd rc nr w) (by rw [fcl]) (nm_r (nI_1 nr) ?_)⟩⟩
  rw [nI_pred]
  exact h
theorem yr_140 {post : Int32 → SY → Prop} {z w : Int32} (h8 : nr < 8) (h : post (nI nr) (nI n, nI tm, nI pm, nI c, nI ne, nI (nr + 1), nI ns, ph, kn, K, L, R, Ym, E, upd r0 nr z, upd r1 nr (hp_r2 x y), upd rc nr w, F, Yc, Yk)) : wY_rule_140 post x y w z (nI nr) (nI n) (nI tm) (nI pm) (nI c) (nI ne) (nI nr) (nI ns) ph kn K L R Ym E r0 r1 rc F Yc Yk := by
  have fin : vp_in (nI nr) 8 := vp_in_nI h8 (by decide)
  have fcl : (nI nr).toNatClampNeg = nr := nI_clamp (by omega)
  refine ⟨fin, nm_r (e' := upd r0 nr z) (by rw [fcl]) ?_⟩
  unfold hp_r2 at h
  by_cases e : x = -1
  · rw [if_pos e] at h
    exact br_t e (yr_159 h8 h)
  · rw [if_neg e] at h
    exact br_f e (yr_159 h8 h)
theorem yr_93 {post : Int32 → SY → Prop} {w : Int32} (hj : j < 16) (hn : nr ≤ 8)
    (h : if Ym j &&& (w ^^^ (-1)) = 0 then (if nr < 8 then post (nI nr) (nI n, nI tm, nI pm, nI c, nI ne, nI (nr + 1), nI ns, ph, kn, K, L, R, Ym, E, upd r0 nr (hp_r1 x y), upd r1 nr (hp_r2 x y), upd rc nr (nI j), F, Yc, Yk) else post (-6) (nI n, nI tm, nI pm, nI c, nI ne, nI nr, nI ns, ph, kn, K, L, R, Ym, E, r0, r1, rc, F, Yc, Yk)) else post (-8) (nI n, nI tm, nI pm, nI c, nI ne, nI nr, nI ns, ph, kn, K, L, R, Ym, E, r0, r1, rc, F, Yc, Yk)) :
    wY_rule_93 post x y (nI j) w (nI n) (nI tm) (nI pm) (nI c) (nI ne) (nI nr) (nI ns) ph kn K L R Ym E r0 r1 rc F Yc Yk := by
  have hcl : (nI j).toNatClampNeg = j := nI_clamp (by omega)
  refine ⟨vp_in_nI hj (by decide), ?_⟩
  rw [hcl]
  by_cases e : Ym j &&& (w ^^^ (-1)) = 0
  · rw [if_pos e] at h
    refine br_t e ?_
    by_cases h8 : nr < 8
    · rw [if_pos h8] at h
      refine br_t (nI_lt (b := 8) h8 (by decide)) ?_
      unfold hp_r1 at h
      by_cases e1 : x = -1
      · rw [if_pos e1] at h
        exact br_t e1 (yr_140 h8 h)
      · rw [if_neg e1] at h
        exact br_f e1 (yr_140 h8 h)
    · rw [if_neg h8] at h
      exact br_f (nI_nlt (b := 8) (by omega) (by omega)) h
  · rw [if_neg e] at h
    exact br_f e h
theorem yr_77 {post : Int32 → SY → Prop} (hc : c ≤ 16) (hj : j < c) (hn : nr ≤ 8) (p2 : hp_pm c Ym y b2)
    (h : if Ym j &&& ((b1 ||| b2) ^^^ (-1)) = 0 then (if nr < 8 then post (nI nr) (nI n, nI tm, nI pm, nI c, nI ne, nI (nr + 1), nI ns, ph, kn, K, L, R, Ym, E, upd r0 nr (hp_r1 x y), upd r1 nr (hp_r2 x y), upd rc nr (nI j), F, Yc, Yk) else post (-6) (nI n, nI tm, nI pm, nI c, nI ne, nI nr, nI ns, ph, kn, K, L, R, Ym, E, r0, r1, rc, F, Yc, Yk)) else post (-8) (nI n, nI tm, nI pm, nI c, nI ne, nI nr, nI ns, ph, kn, K, L, R, Ym, E, r0, r1, rc, F, Yc, Yk)) :
    wY_rule_77 post x y (nI j) b1 (nI n) (nI tm) (nI pm) (nI c) (nI ne) (nI nr) (nI ns) ph kn K L R Ym E r0 r1 rc F Yc Yk := by
  rcases p2 with ⟨rfl, rfl⟩ | ⟨i, hi, rfl, rfl⟩
  · rw [hb_oz] at h
    exact br_t rfl (yr_93 (by omega) hn h)
  · have hcl : (nI i).toNatClampNeg = i := nI_clamp (by omega)
    exact br_f (ha_ne1 (by omega)) ⟨vp_in_nI (by omega) (by decide), nm_r (e' := b1 ||| Ym i) (by rw [hcl]) (yr_93 (by omega) hn h)⟩
theorem yr_27 {post : Int32 → SY → Prop} (J : hp_J n tm pm c ne nr ns ph kn K L R M A Z E r0 r1 rc F Ym Yc Yk) (hj : j < c) (p1 : hp_pm c M x b1) (p2 : hp_pm c M y b2)
    (h : if M j &&& ((b1 ||| b2) ^^^ (-1)) = 0 then (if nr < 8 then post (nI nr) (nI n, nI tm, nI pm, nI c, nI ne, nI (nr + 1), nI ns, ph, kn, K, L, R, M, E, upd r0 nr (hp_r1 x y), upd r1 nr (hp_r2 x y), upd rc nr (nI j), F, A, Yk) else post (-6) (nI n, nI tm, nI pm, nI c, nI ne, nI nr, nI ns, ph, kn, K, L, R, M, E, r0, r1, rc, F, A, Yk)) else post (-8) (nI n, nI tm, nI pm, nI c, nI ne, nI nr, nI ns, ph, kn, K, L, R, M, E, r0, r1, rc, F, A, Yk)) :
    wY_rule_27 post x y (nI j) (nI n) (nI tm) (nI pm) (nI c) (nI ne) (nI nr) (nI ns) ph kn K L R Ym E r0 r1 rc F Yc Yk := by
  obtain ⟨q1, q2, q3, q4, q5, q6, q7, q8⟩ := hj_b J
  have h43 : wY_rule_43 post x y (nI j) (nI n) (nI tm) (nI pm) (nI c) (nI ne) (nI nr) (nI ns) ph kn K L R Ym E r0 r1 rc F Yc Yk := by
    unfold wY_rule_43
    refine yi_h1 hj (by omega) (br_f (by decide) (yj_ref J ?_))
    rcases p1 with ⟨rfl, rfl⟩ | ⟨i, hi, rfl, rfl⟩
    · exact br_t rfl (yr_77 (by omega) hj q7 p2 h)
    · have hcl : (nI i).toNatClampNeg = i := nI_clamp (by omega)
      exact br_f (ha_ne1 (by omega)) ⟨vp_in_nI (by omega) (by decide), nm_r (e' := M i) (by rw [hcl, hb_zo]) (yr_77 (by omega) hj q7 p2 h)⟩
  rcases p2 with ⟨rfl, _⟩ | ⟨i, hi, rfl, _⟩
  · exact br_t rfl h43
  · exact br_f (ha_ne1 (by omega)) (yi_h1 hi (by omega) (br_f (by decide) h43))
theorem hp_pmo (x : Int32) (M : Nat → Int32) {c : Nat} (hc : c ≤ 16) : (∃ b, hp_pm c M x b) ∨ (¬ x = -1 ∧ (x < 0 ∨ nI c ≤ x)) := by
  by_cases e : x = -1
  · exact Or.inl ⟨0, Or.inl ⟨e, rfl⟩⟩
  · rcases hp_ix x (c := c) (by omega) with ⟨j, hj, rfl⟩ | h
    · exact Or.inl ⟨M j, Or.inr ⟨j, hj, rfl, rfl⟩⟩
    · exact Or.inr ⟨e, h⟩
theorem hp_pm1 (h : hp_pm c M x b1) : x = -1 ∨ ∃ i, i < c ∧ x = nI i := h.elim (fun z => Or.inl z.1) (fun ⟨i, a, b, _⟩ => Or.inr ⟨i, a, b⟩)
end HU
theorem i_vc_rule {k : Nat} {u : SX} {v : SY} (I : i_Rel k u v) (hk : k + 5 ≤ 2563) (v1 : Int32) (v2 : Int32) (v3 : Int32) : wpX_rule (fun r u' => wpY_rule (fun r' v' => r' = r ∧ i_Rel (k + 5) u' v') v v1 v2 v3) u v1 v2 v3 := by
  have I' := I
  obtain ⟨n, tm, pm, c, ne, nr, ns, ph, kn, K, L, R, M, A, Z, E, r0, r1, rc, F, Ym, Yc, Yk, rfl, rfl, J⟩ := I
  obtain ⟨b1, b2, b3, b4, b5, b6, b7, b8⟩ := hj_b J
  have I2 := hj_mk (k := k + 5) (hj_ref J)
  have c16 : c ≤ 16 := by omega
  rcases hj_ph J with p | p
  · have q : ¬ ph = 1 := by rw [p]; decide
    refine br_f q ?_
    rcases hp_pmo v1 M c16 with ⟨w1, p1⟩ | ⟨n1, h1⟩
    · -- both first steps alike
      have gx : ∀ (post : Int32 → SX → Prop), wX_rule_27 post v1 v2 v3 (nI n) (nI tm) (nI pm) ph (nI c) (nI ne) (nI nr) (nI ns) kn K L R M A Z E r0 r1 rc F → (v1 = -1 → wX_rule_27 post v1 v2 v3 (nI n) (nI tm) (nI pm) ph (nI c) (nI ne) (nI nr) (nI ns) kn K L R M A Z E r0 r1 rc F) ∧ (¬ v1 = -1 → wpX_isHandle (fun r => (r = 0 → post (-5) (nI n, nI tm, nI pm, ph, nI c, nI ne, nI nr, nI ns, kn, K, L, R, M, A, Z, E, r0, r1, rc, F)) ∧ (¬ r = 0 → wX_rule_27 post v1 v2 v3 (nI n) (nI tm) (nI pm) ph (nI c) (nI ne) (nI nr) (nI ns) kn K L R M A Z E r0 r1 rc F)) (nI n, nI tm, nI pm, ph, nI c, nI ne, nI nr, nI ns, kn, K, L, R, M, A, Z, E, r0, r1, rc, F) v1) := fun post h => by
        rcases hp_pm1 p1 with rfl | ⟨i, hi, rfl⟩
        · exact br_t rfl h
        · exact br_f (ha_ne1 (by omega)) (xi_h1 hi (by omega) (br_f (by decide) h))
      have gy : ∀ (post : Int32 → SY → Prop), wY_rule_27 post v1 v2 v3 (nI n) (nI tm) (nI pm) (nI c) (nI ne) (nI nr) (nI ns) ph kn K L R Ym E r0 r1 rc F Yc Yk → wpY_rule post (nI n, nI tm, nI pm, nI c, nI ne, nI nr, nI ns, ph, kn, K, L, R, Ym, E, r0, r1, rc, F, Yc, Yk) v1 v2 v3 := fun post h => by
        refine br_f q ?_
        rcases hp_pm1 p1 with rfl | ⟨i, hi, rfl⟩
        · exact br_t rfl h
        · exact br_f (ha_ne1 (by omega)) (yi_h1 hi (by omega) (br_f (by decide) h))
      refine gx _ ?_
      rcases hp_pmo v2 M c16 with ⟨w2, p2⟩ | ⟨n2, h2⟩
      · rcases hp_ix v3 (c := c) (by omega) with ⟨j, hj, rfl⟩ | h3
        · refine xr_27 c16 hj b7 p1 p2 ?_
          by_cases e : M j &&& ((w1 ||| w2) ^^^ (-1)) = 0
          · rw [if_pos e]
            by_cases h8 : nr < 8
            · rw [if_pos h8]
              refine gy _ (yr_27 J hj p1 p2 ?_)
              rw [if_pos e, if_pos h8]
              refine ⟨rfl, hj_mk ⟨⟨J.1.1, b2, b3, b4, b5, b6, by omega, b8⟩, J.2.1, ⟨J.2.2.1.1, ?_, J.2.2.1.2.2⟩, ⟨J.2.1.2.1, J.2.1.2.2.2⟩, J.2.2.2.2⟩⟩
              intro r hr
              by_cases er : r = nr
              · subst er
                rw [pk_us, pk_us, pk_us]
                have o1 : v1 = -1 ∨ ∃ h, h < c ∧ v1 = nI h := hp_pm1 p1
                have o2 : v2 = -1 ∨ ∃ h, h < c ∧ v2 = nI h := hp_pm1 p2
                refine ⟨?_, ?_, j, hj, rfl⟩
                · unfold hp_r1
                  split
                  · exact o2
                  · exact o1
                · unfold hp_r2
                  split
                  · exact Or.inl rfl
                  · exact o2
              · rw [pk_un er, pk_un er, pk_un er]
                exact J.2.2.1.2.1 r (by omega)
            · rw [if_neg h8]
              refine gy _ (yr_27 J hj p1 p2 ?_)
              rw [if_pos e, if_neg h8]
              exact ⟨rfl, I2⟩
          · rw [if_neg e]
            refine gy _ (yr_27 J hj p1 p2 ?_)
            rw [if_neg e]
            exact ⟨rfl, I2⟩
        · have hx : wX_rule_43 (fun r u' => wpY_rule (fun r' v' => r' = r ∧ i_Rel (k + 5) u' v') (nI n, nI tm, nI pm, nI c, nI ne, nI nr, nI ns, ph, kn, K, L, R, Ym, E, r0, r1, rc, F, Yc, Yk) v1 v2 v3) v1 v2 v3 (nI n) (nI tm) (nI pm) ph (nI c) (nI ne) (nI nr) (nI ns) kn K L R M A Z E r0 r1 rc F := by
            refine xi_h0 h3 (br_t rfl (gy _ ?_))
            rcases hp_pm1 p2 with rfl | ⟨i, hi, rfl⟩
            · exact br_t rfl (yi_h0 h3 (br_t rfl ⟨rfl, I'⟩))
            · exact br_f (ha_ne1 (by omega)) (yi_h1 hi (by omega) (br_f (by decide) (yi_h0 h3 (br_t rfl ⟨rfl, I'⟩))))
          rcases hp_pm1 p2 with e2 | ⟨i, hi, e2⟩
          · exact br_t e2 hx
          · refine br_f (by rw [e2]; exact ha_ne1 (by omega)) ?_
            have := xi_h1 (fN := nI n) (fT := nI tm) (fP := nI pm) (fp := ph) (fe := nI ne) (fr := nI nr) (fs := nI ns) (fk := kn) (K := K) (L := L) (R := R) (M := M) (A := A) (Z := Z) (E := E) (r0 := r0) (r1 := r1) (rc := rc) (F := F) (c := c) (post := fun r => (r = 0 → wpY_rule (fun r' v' => r' = (-5) ∧ i_Rel (k + 5) (nI n, nI tm, nI pm, ph, nI c, nI ne, nI nr, nI ns, kn, K, L, R, M, A, Z, E, r0, r1, rc, F) v') (nI n, nI tm, nI pm, nI c, nI ne, nI nr, nI ns, ph, kn, K, L, R, Ym, E, r0, r1, rc, F, Yc, Yk) v1 v2 v3) ∧ (¬ r = 0 → wX_rule_43 (fun r u' => wpY_rule (fun r' v' => r' = r ∧ i_Rel (k + 5) u' v') (nI n, nI tm, nI pm, nI c, nI ne, nI nr, nI ns, ph, kn, K, L, R, Ym, E, r0, r1, rc, F, Yc, Yk) v1 v2 v3) v1 v2 v3 (nI n) (nI tm) (nI pm) ph (nI c) (nI ne) (nI nr) (nI ns) kn K L R M A Z E r0 r1 rc F)) hi (by omega) (br_f (by decide) hx)
            rw [← e2] at this
            exact this
      · exact br_f n2 (xi_h0 h2 (br_t rfl (gy _ (br_f n2 (yi_h0 h2 (br_t rfl ⟨rfl, I'⟩))))))
    · exact br_f n1 (xi_h0 h1 (br_t rfl (br_f q (br_f n1 (yi_h0 h1 (br_t rfl ⟨rfl, I'⟩))))))
  · exact br_t p (br_t p ⟨rfl, I'⟩)
end
section
/-! make -/
def hp_tq (K L R : Nat → Int32) (k a b : Int32) (i : Nat) : Prop := K i = k ∧ L i = a ∧ R i = b
section HK
variable {n tm pm c ne nr ns : Nat} {ph kn : Int32} {K L R M A Z E r0 r1 rc F Ym Yc Yk : Nat → Int32} {a b kk : Int32}
theorem xm_3 {post : Int32 → Prop} (hc : c ≤ 16) (hf : ∀ i, i < c → hp_tq K L R kk a b i → (∀ q, q < i → ¬ hp_tq K L R kk a b q) → post (nI i)) (h0 : (∀ q, q < c → ¬ hp_tq K L R kk a b q) → post (-1)) : wpX_findTerm post (nI n, nI tm, nI pm, ph, nI c, nI ne, nI nr, nI ns, kn, K, L, R, M, A, Z, E, r0, r1, rc, F) kk a b := by
  refine pk_loop (fun f i (_ : Unit) => wX_findTerm_3 post kk a b (nI n) (nI tm) (nI pm) ph (nI c) (nI ne) (nI nr) (nI ns) kn K L R M A Z E r0 r1 rc F f (nI i)) (fun i _ => ∀ q, q < i → ¬ hp_tq K L R kk a b q) c 0 () (by omega) (fun q hq => absurd hq (Nat.not_lt_zero q)) ?_ ?_
  · intro f s hs
    exact br_t (nI_le (Nat.le_refl _) (by omega)) (h0 hs)
  · intro f i s hi hs nx
    have hin : vp_in (nI i) 16 := vp_in_nI (by omega) (by decide)
    have hcl : (nI i).toNatClampNeg = i := nI_clamp (by omega)
    have nx : ¬ hp_tq K L R kk a b i → ∀ x, x = nI i + 1 → wX_findTerm_3 post kk a b (nI n) (nI tm) (nI pm) ph (nI c) (nI ne) (nI nr) (nI ns) kn K L R M A Z E r0 r1 rc F f x := fun z => nm_r (nI_1 i) (nx () (lt_s hs z))
    refine br_f (nI_ge hi (by omega)) ⟨hin, ?_⟩
    rw [hcl]
    by_cases e1 : K i = kk
    · refine br_t e1 ⟨hin, ?_⟩
      by_cases e2 : L i = a
      · refine br_t e2 ⟨hin, ?_⟩
        by_cases e3 : R i = b
        · exact br_t e3 (hf i hi ⟨e1, e2, e3⟩ hs)
        · exact br_f e3 (nx (fun z => e3 z.2.2))
      · exact br_f e2 (nx (fun z => e2 z.2.1))
    · exact br_f e1 (nx (fun z => e1 z.1))
theorem ym_109 {post : Int32 → SY → Prop} (hc : c ≤ tm) (ht : tm ≤ 16) (hf : ∀ i, i < c → hp_tq K L R kk a b i → (∀ q, q < i → ¬ hp_tq K L R kk a b q) → post (nI i) (nI n, nI tm, nI pm, nI c, nI ne, nI nr, nI ns, ph, kn, K, L, R, Ym, E, r0, r1, rc, F, Yc, Yk))
    (h0 : (∀ q, q < c → ¬ hp_tq K L R kk a b q) → c < tm → post (nI c) (nI n, nI tm, nI pm, nI (c + 1), nI ne, nI nr, nI ns, ph, kn, upd K c kk, upd L c a, upd R c b, Ym, E, r0, r1, rc, F, Yc, Yk)) (h1 : (∀ q, q < c → ¬ hp_tq K L R kk a b q) → ¬ c < tm → post (-6) (nI n, nI tm, nI pm, nI c, nI ne, nI nr, nI ns, ph, kn, K, L, R, Ym, E, r0, r1, rc, F, Yc, Yk)) :
    ∃ f, wY_make_109 post kk a b (nI n) (nI tm) (nI pm) (nI c) (nI ne) (nI nr) (nI ns) ph kn K L R Ym E r0 r1 rc F Yc Yk f 0 := by
  refine pk_loop (fun f i (_ : Unit) => wY_make_109 post kk a b (nI n) (nI tm) (nI pm) (nI c) (nI ne) (nI nr) (nI ns) ph kn K L R Ym E r0 r1 rc F Yc Yk f (nI i)) (fun i _ => ∀ q, q < i → ¬ hp_tq K L R kk a b q) c 0 () (by omega) (fun q hq => absurd hq (Nat.not_lt_zero q)) ?_ ?_
  · intro f s hs
    refine br_t (nI_le (Nat.le_refl _) (by omega)) ?_
    by_cases h : c < tm
    · have hin : vp_in (nI c) 16 := vp_in_nI (by omega) (by decide)
      have hcl : (nI c).toNatClampNeg = c := nI_clamp (by omega)
      refine br_t (nI_lt h (by omega)) ⟨hin, nm_r (e' := upd K c kk) (by rw [hcl]) ⟨hin, nm_r (e' := upd L c a) (by rw [hcl]) ⟨hin, nm_r (e' := upd R c b) (by rw [hcl]) (nm_r (nI_1 c) ?_)⟩⟩⟩
      rw [nI_pred]
      exact h0 hs h
    · exact br_f (nI_nlt (by omega) (by omega)) (h1 hs h)
  · intro f i s hi hs nx
    have hin : vp_in (nI i) 16 := vp_in_nI (by omega) (by decide)
    have hcl : (nI i).toNatClampNeg = i := nI_clamp (by omega)
    have nx : ¬ hp_tq K L R kk a b i → ∀ x, x = nI i + 1 → wY_make_109 post kk a b (nI n) (nI tm) (nI pm) (nI c) (nI ne) (nI nr) (nI ns) ph kn K L R Ym E r0 r1 rc F Yc Yk f x := fun z => nm_r (nI_1 i) (nx () (lt_s hs z))
    refine br_f (nI_ge hi (by omega)) ⟨hin, ?_⟩
    rw [hcl]
    by_cases e1 : K i = kk
    · refine br_t e1 ⟨hin, ?_⟩
      by_cases e2 : L i = a
      · refine br_t e2 ⟨hin, ?_⟩
        by_cases e3 : R i = b
        · exact br_t e3 (hf i hi ⟨e1, e2, e3⟩ hs)
        · exact br_f e3 (nx (fun z => e3 z.2.2))
      · exact br_f e2 (nx (fun z => e2 z.2.1))
    · exact br_f e1 (nx (fun z => e1 z.1))
theorem hm_u {i i' : Nat} (h : hp_tq K L R kk a b i) (l : ∀ q, q < i → ¬ hp_tq K L R kk a b q) (h' : hp_tq K L R kk a b i') (l' : ∀ q, q < i' → ¬ hp_tq K L R kk a b q) : i' = i := by
  rcases Nat.lt_trichotomy i i' with y | y | y
  · exact absurd h (l' i y)
  · exact y.symm
  · exact absurd h' (l i' y)
/-- both sides behind the refusals -/
theorem xm_60 {q : Nat} {P : Int32 → SX → Prop} (J : hp_J n tm pm c ne nr ns ph kn K L R M A Z E r0 r1 rc F Ym Yc Yk) (hb : ph = 0) (hN : hp_N n c kk a b)
    (hP : ∀ r u', (∃ f, wY_make_109 (fun r' v' => r' = r ∧ i_Rel q u' v') kk a b (nI n) (nI tm) (nI pm) (nI c) (nI ne) (nI nr) (nI ns) ph kn K L R Ym E r0 r1 rc F Yc Yk f 0) → P r u') : wX_make_60 P kk a b (nI n) (nI tm) (nI pm) ph (nI c) (nI ne) (nI nr) (nI ns) kn K L R M A Z E r0 r1 rc F := by
  obtain ⟨b1, b2, b3, b4, b5, b6, b7, b8⟩ := hj_b J
  unfold wX_make_60
  refine xm_3 (by omega) (fun i hi h1 h2 => br_f (ha_ne1 (by omega)) (hP _ _ (ym_109 b3 b4 ?_ ?_ ?_))) (fun h0 => br_t rfl ?_)
  · intro i' hi' h1' h2'
    have e := hm_u h1 h2 h1' h2'
    subst e
    exact ⟨rfl, hj_mk J⟩
  · exact fun z => absurd h1 (z i hi)
  · exact fun z => absurd h1 (z i hi)
  · by_cases h : c < tm
    · refine br_t (nI_lt h (by omega)) (xi_add J.1.1 (by omega) hN J.2.1.1 J.2.1.2.1 J.2.1.2.2.1 J.2.1.2.2.2 ?_)
      intro A' M' g1 g2 g3 g4
      refine hP _ _ (ym_109 b3 b4 (fun i hi z => absurd z (h0 i hi)) (fun _ _ => ⟨rfl, ?_⟩) (fun _ z => absurd h z))
      obtain ⟨ns0, kn0, hz⟩ : ns = 0 ∧ kn = 0 ∧ _ := J.2.2.2.2.elim (fun z => z.2) (fun z => absurd (hb.symm.trans z.1) (by decide))
      refine hj_mk ⟨⟨hw_x J.1.1 (by omega) hN, by omega, by omega, b4, b5, b6, b7, b8⟩, ⟨g1, g2, g3, g4⟩, ⟨?_, ?_, ?_⟩, J.2.2.2.1, Or.inl ⟨hb, ns0, kn0, hz⟩⟩
      · intro e he
        obtain ⟨x, x1, x2⟩ := J.2.2.1.1 e he
        exact ⟨x, by omega, x2⟩
      · intro r hr
        obtain ⟨y1, y2, x, x1, x2⟩ := J.2.2.1.2.1 r hr
        exact ⟨y1.imp id (fun ⟨x, x1, x2⟩ => ⟨x, by omega, x2⟩), y2.imp id (fun ⟨x, x1, x2⟩ => ⟨x, by omega, x2⟩), x, by omega, x2⟩
      · intro j hj
        omega
    · refine br_f (nI_nlt (by omega) (by omega)) (hP _ _ (ym_109 b3 b4 (fun i hi z => absurd z (h0 i hi)) (fun _ z => absurd z h) (fun _ _ => ⟨rfl, hj_mk J⟩)))
end HK
theorem i_vc_make {k : Nat} {u : SX} {v : SY} (I : i_Rel k u v) (hk : k + 5 ≤ 2563) (v1 : Int32) (v2 : Int32) (v3 : Int32) : wpX_make (fun r u' => wpY_make (fun r' v' => r' = r ∧ i_Rel (k + 5) u' v') v v1 v2 v3) u v1 v2 v3 := by
  have I' := I
  obtain ⟨n, tm, pm, c, ne, nr, ns, ph, kn, K, L, R, M, A, Z, E, r0, r1, rc, F, Ym, Yc, Yk, rfl, rfl, J⟩ := I
  obtain ⟨b1, b2, b3, b4, b5, b6, b7, b8⟩ := hj_b J
  rcases hj_ph J with p | p
  · have q : ¬ ph = 1 := by rw [p]; decide
    refine br_f q ?_
    unfold wpX_makeRefusal
    by_cases z1 : v1 < 1
    · exact br_t z1 (br_f (by decide) (br_f q (br_t z1 ⟨rfl, I'⟩)))
    · by_cases z5 : (5 : Int32) < v1
      · exact br_f z1 (br_t z5 (br_f (by decide) (br_f q (br_f z1 (br_f (Int32.not_le.mpr z5) ⟨rfl, I'⟩)))))
      · have w5 : v1 ≤ 5 := Int32.not_lt.mp z5
        have w0 : ¬ v1 < 0 := fun z => z1 (Int32.lt_trans z (by decide))
        obtain ⟨i, hi, rfl⟩ := nI_of2 (M := 5) (n := 5) (by decide) w0 w5
        have hi1 : 1 ≤ i := by
          by_cases e : 1 ≤ i
          · exact e
          · exact absurd (nI_lt (b := 1) (by omega) (by decide)) z1
        refine br_f z1 (br_f z5 ?_)
        obtain rfl | rfl | h234 : i = 1 ∨ i = 5 ∨ (i = 2 ∨ i = 3 ∨ i = 4) := by omega
        · -- VAR
          refine br_t rfl ?_
          have key : (v2 = 0 ∨ v2 = 1) → (0 : Int32) ≤ 0 → wX_make_48 (fun r u' => wpY_make (fun r' v' => r' = r ∧ i_Rel (k + 5) u' v') (nI n, nI tm, nI pm, nI c, nI ne, nI nr, nI ns, ph, kn, K, L, R, Ym, E, r0, r1, rc, F, Yc, Yk) (nI 1) v2 v3) (nI 1) v2 v3 0 (nI n) (nI tm) (nI pm) ph (nI c) (nI ne) (nI nr) (nI ns) kn K L R M A Z E r0 r1 rc F := fun hv _ => by
            refine br_t rfl (xm_60 (q := k + 5) J p (Or.inr ⟨b2, Or.inl ⟨rfl, hv, rfl⟩⟩) (fun r u' h => ?_))
            refine br_f q (br_f z1 (br_t w5 (br_t rfl ?_)))
            have h41 : wY_make_41 (fun r' v' => r' = r ∧ i_Rel (k + 5) u' v') (nI 1) v2 v3 (nI n) (nI tm) (nI pm) (nI c) (nI ne) (nI nr) (nI ns) ph kn K L R Ym E r0 r1 rc F Yc Yk := br_f (by decide) (br_t (by decide) (br_t rfl h))
            by_cases e0 : v2 = 0
            · exact br_t e0 h41
            · exact br_f e0 (br_t (hv.resolve_left e0) h41)
          by_cases e0 : v2 = 0
          · exact br_t e0 (br_t (by decide) (br_f (by decide) (br_f (by decide) (br_f (by decide) (key (Or.inl e0) (by decide))))))
          · by_cases e1 : v2 = 1
            · exact br_f e0 (br_t e1 (br_t (by decide) (br_f (by decide) (br_f (by decide) (br_f (by decide) (key (Or.inr e1) (by decide)))))))
            · exact br_f e0 (br_f e1 (br_f (by decide) (br_f q (br_f z1 (br_t w5 (br_t rfl (br_f e0 (br_f e1 ⟨rfl, I'⟩))))))))
        · -- PK
          refine br_f (by decide) (br_f (by decide) (br_f (by decide) (br_f (by decide) (br_t rfl ?_))))
          rcases hp_ix v2 (c := c) (by omega) with ⟨j, hj, rfl⟩ | h2
          · refine xi_h1 hj (by omega) (br_f (by decide) (br_t (by decide) (br_f (by decide) (br_f (by decide) (br_f (by decide) (br_t rfl (xm_60 (q := k + 5) J p (Or.inr ⟨b2, Or.inr (Or.inl ⟨rfl, ⟨j, hj, rfl⟩, rfl⟩)⟩) (fun r u' h => ?_))))))))
            exact br_f q (br_f z1 (br_t w5 (br_f (by decide) (br_t rfl (yi_h1 hj (by omega) (br_f (by decide) (br_f (by decide) (br_t (by decide) (br_f (by decide) (br_t rfl h))))))))))
          · exact xi_h0 h2 (br_t rfl (br_f (by decide) (br_f q (br_f z1 (br_t w5 (br_f (by decide) (br_t rfl (yi_h0 h2 (br_t rfl ⟨rfl, I'⟩)))))))))
        · -- PAIR, SENC, AENC
          have n1 : ¬ nI i = 1 := by rcases h234 with rfl | rfl | rfl <;> decide
          have n5 : ¬ nI i = 5 := by rcases h234 with rfl | rfl | rfl <;> decide
          have l2 : ¬ nI i < 2 := nI_nlt (b := 2) (by omega) (by omega)
          have l4 : ¬ (4 : Int32) < nI i := nI_nlt (a := 4) (by omega) (by omega)
          have kn3 : nI i = 2 ∨ nI i = 3 ∨ nI i = 4 := by rcases h234 with rfl | rfl | rfl <;> decide
          refine br_f n1 ?_
          -- which of the three
          have sx : ∀ (post : Int32 → Prop), wX_makeRefusal_67 post v2 v3 (nI n) (nI tm) (nI pm) ph (nI c) (nI ne) (nI nr) (nI ns) kn K L R M A Z E r0 r1 rc F → (nI i = 2 → wX_makeRefusal_67 post v2 v3 (nI n) (nI tm) (nI pm) ph (nI c) (nI ne) (nI nr) (nI ns) kn K L R M A Z E r0 r1 rc F) ∧ (¬ nI i = 2 → ((nI i = 3 → wX_makeRefusal_67 post v2 v3 (nI n) (nI tm) (nI pm) ph (nI c) (nI ne) (nI nr) (nI ns) kn K L R M A Z E r0 r1 rc F) ∧ (¬ nI i = 3 → ((nI i = 4 → wX_makeRefusal_67 post v2 v3 (nI n) (nI tm) (nI pm) ph (nI c) (nI ne) (nI nr) (nI ns) kn K L R M A Z E r0 r1 rc F) ∧ (¬ nI i = 4 → ((nI i = 5 → wpX_isHandle (fun r => (r = 0 → post (-5)) ∧ (¬ r = 0 → post 0)) (nI n, nI tm, nI pm, ph, nI c, nI ne, nI nr, nI ns, kn, K, L, R, M, A, Z, E, r0, r1, rc, F) v2) ∧ (¬ nI i = 5 → True))))))) := fun post h => by
            rcases kn3 with e | e | e
            · exact br_t e h
            · exact br_f (by rw [e]; decide) (br_t e h)
            · exact br_f (by rw [e]; decide) (br_f (by rw [e]; decide) (br_t e h))
          refine sx _ ?_
          unfold wX_makeRefusal_67
          have yy : ∀ (post : Int32 → SY → Prop), wpY_isHandle (fun r_28 => (((r_28 = 0 → (post (-5) (nI n, nI tm, nI pm, nI c, nI ne, nI nr, nI ns, ph, kn, K, L, R, Ym, E, r0, r1, rc, F, Yc, Yk))) ∧ (¬ r_28 = 0 → (wpY_isHandle (fun r_50 => (((r_50 = 0 → (post (-5) (nI n, nI tm, nI pm, nI c, nI ne, nI nr, nI ns, ph, kn, K, L, R, Ym, E, r0, r1, rc, F, Yc, Yk))) ∧ (¬ r_50 = 0 → (wY_make_89 post (nI i) v2 v3 (nI n) (nI tm) (nI pm) (nI c) (nI ne) (nI nr) (nI ns) ph kn K L R Ym E r0 r1 rc F Yc Yk))))) (nI n, nI tm, nI pm, nI c, nI ne, nI nr, nI ns, ph, kn, K, L, R, Ym, E, r0, r1, rc, F, Yc, Yk) v3))))) (nI n, nI tm, nI pm, nI c, nI ne, nI nr, nI ns, ph, kn, K, L, R, Ym, E, r0, r1, rc, F, Yc, Yk) v2 → wpY_make post (nI n, nI tm, nI pm, nI c, nI ne, nI nr, nI ns, ph, kn, K, L, R, Ym, E, r0, r1, rc, F, Yc, Yk) (nI i) v2 v3 := fun post h =>
            br_f q (br_f z1 (br_t w5 (br_f n1 (br_f n5 (br_f l2 (br_f l4 h))))))
          rcases hp_ix v2 (c := c) (by omega) with ⟨j, hj, rfl⟩ | h2
          · rcases hp_ix v3 (c := c) (by omega) with ⟨j', hj', rfl⟩ | h3
            · refine xi_h1 hj (by omega) (br_f (by decide) (xi_h1 hj' (by omega) (br_f (by decide) (br_t (by decide) ?_))))
              have h43 : wX_make_43 (fun r u' => wpY_make (fun r' v' => r' = r ∧ i_Rel (k + 5) u' v') (nI n, nI tm, nI pm, nI c, nI ne, nI nr, nI ns, ph, kn, K, L, R, Ym, E, r0, r1, rc, F, Yc, Yk) (nI i) (nI j) (nI j')) (nI i) (nI j) (nI j') (nI n) (nI tm) (nI pm) ph (nI c) (nI ne) (nI nr) (nI ns) kn K L R M A Z E r0 r1 rc F := by
                refine br_f (by decide) (xm_60 (q := k + 5) J p (Or.inr ⟨b2, Or.inr (Or.inr ⟨kn3, ⟨j, hj, rfl⟩, ⟨j', hj', rfl⟩⟩)⟩) (fun r u' h => ?_))
                exact yy _ (yi_h1 hj (by omega) (br_f (by decide) (yi_h1 hj' (by omega) (br_f (by decide) (br_f n1 (br_f n5 h))))))
              rcases kn3 with e | e | e
              · exact br_t e h43
              · exact br_f (by rw [e]; decide) (br_t e h43)
              · exact br_f (by rw [e]; decide) (br_f (by rw [e]; decide) (br_t e h43))
            · exact xi_h1 hj (by omega) (br_f (by decide) (xi_h0 h3 (br_t rfl (br_f (by decide) (yy _ (yi_h1 hj (by omega) (br_f (by decide) (yi_h0 h3 (br_t rfl ⟨rfl, I'⟩)))))))))
          · exact xi_h0 h2 (br_t rfl (br_f (by decide) (yy _ (yi_h0 h2 (br_t rfl ⟨rfl, I'⟩)))))
  · exact br_t p (br_t p ⟨rfl, I'⟩)
end
section
/-! what step reads: parts, keys, scans, rules, on both sides -/
section HXF
variable {fN fT fP fp fc fe fr fs fk : Int32} {K L R M A Z E r0 r1 rc F : Nat → Int32} {Yk Yc Ym : Nat → Int32} {post : Int32 → Prop} {n c f w i : Nat}
theorem xi_lft (W : hp_W n c K L R) (C : hp_C n c K L R A) (hf : f < 256) (hv : f / 16 < c ∧ hp_V n (f % 16)) (na : ¬ hp_a K f) (h : post (A (hp_l L f))) : wpX_leftPart post (fN, fT, fP, fp, fc, fe, fr, fs, fk, K, L, R, M, A, Z, E, r0, r1, rc, F) (nI f) := by
  obtain ⟨l, x, l1, l2, l3, _⟩ := hc_l W C hv na
  exact xi_left hf l1 l2 (by rw [← l3]; exact h)
theorem xi_rgt (W : hp_W n c K L R) (C : hp_C n c K L R A) (hf : f < 256) (hv : f / 16 < c ∧ hp_V n (f % 16)) (na : ¬ hp_a K f) (n5 : ¬ K (f / 16) = 5) (h : post (A (hp_l R f))) : wpX_rightPart post (fN, fT, fP, fp, fc, fe, fr, fs, fk, K, L, R, M, A, Z, E, r0, r1, rc, F) (nI f) := by
  obtain ⟨l, x, l1, l2, l3, _⟩ := hc_r W C hv na n5
  exact xi_right hf l1 l2 (by rw [← l3]; exact h)
theorem yi_lft (W : hp_W n c K L R) (C : hp_C n c K L R A) (hf : f < 256) (hv : f / 16 < c ∧ hp_V n (f % 16)) (na : ¬ hp_a K f) (h : post (A (hp_l L f))) : wpY_gleft post (fN, fT, fP, fc, fe, fr, fs, fp, fk, K, L, R, Ym, E, r0, r1, rc, F, A, Yk) (nI f) := by
  obtain ⟨l, x, l1, l2, l3, _⟩ := hc_l W C hv na
  exact yi_gl hf l1 l2 (by rw [← l3]; exact h)
theorem yi_rgt (W : hp_W n c K L R) (C : hp_C n c K L R A) (hf : f < 256) (hv : f / 16 < c ∧ hp_V n (f % 16)) (na : ¬ hp_a K f) (n5 : ¬ K (f / 16) = 5) (h : post (A (hp_l R f))) : wpY_gright post (fN, fT, fP, fc, fe, fr, fs, fp, fk, K, L, R, Ym, E, r0, r1, rc, F, A, Yk) (nI f) := by
  obtain ⟨l, x, l1, l2, l3, _⟩ := hc_r W C hv na n5
  exact yi_gr hf l1 l2 (by rw [← l3]; exact h)
theorem yi_kk (hf : f < 256) (h : post (hp_kk K f)) : wpY_gkind post (fN, fT, fP, fc, fe, fr, fs, fp, fk, K, L, R, Ym, E, r0, r1, rc, F, Yc, Yk) (nI f) := by
  unfold hp_kk at h
  refine yi_gk hf (fun e => ?_) (fun e => ?_)
  · rw [if_pos e] at h
    exact h
  · rw [if_neg e] at h
    exact h
theorem hk_i {m : Int32} (m0 : ¬ m = 0) (m1 : ¬ m = 1) : hp_kk K f = m ↔ K (f / 16) = m := by
  unfold hp_kk
  split
  · rename_i e
    rw [e]
    exact ⟨fun z => absurd z.symm m0, fun z => absurd z.symm m1⟩
  · exact Iff.rfl
theorem xi_knd {m : Int32} (hf : f < 256) (h1 : K (f / 16) = m → post 1) (h0 : ¬ K (f / 16) = m → post 0) : wpX_isOfKind post (fN, fT, fP, fp, fc, fe, fr, fs, fk, K, L, R, M, A, Z, E, r0, r1, rc, F) (nI f) m := by
  refine ⟨by decide, ?_, ?_⟩
  · rw [ha_d16 (by omega)]
    exact vp_in_nI (by omega) (by decide)
  · rw [ha_d16 (by omega), nI_clamp (by omega)]
    exact ⟨h1, h0⟩
theorem xi_key3 (W : hp_W n c K L R) (C : hp_C n c K L R A) (hf : f < 256) (hv : f / 16 < c ∧ hp_V n (f % 16)) (k : K (f / 16) = 3) (h : post (A (hp_l R f))) : wpX_openingKey post (fN, fT, fP, fp, fc, fe, fr, fs, fk, K, L, R, M, A, Z, E, r0, r1, rc, F) (nI f) := by
  unfold wpX_openingKey
  refine xi_rgt W C hf hv (hn_3 k) (by rw [k]; decide) ⟨by decide, ?_, ?_⟩
  · rw [ha_d16 (by omega)]
    exact vp_in_nI (by omega) (by decide)
  · rw [ha_d16 (by omega), nI_clamp (n := f / 16) (by omega)]
    exact br_t k h
theorem xi_key4 (W : hp_W n c K L R) (C : hp_C n c K L R A) (hf : f < 256) (hv : f / 16 < c ∧ hp_V n (f % 16)) (k : K (f / 16) = 4) (hw : w < 256) (ew : A (hp_l R f) = nI w) (aw : A w = nI w) (h1 : K (w / 16) = 5 → post (A (hp_l L w))) (h0 : ¬ K (w / 16) = 5 → post (-1)) : wpX_openingKey post (fN, fT, fP, fp, fc, fe, fr, fs, fk, K, L, R, M, A, Z, E, r0, r1, rc, F) (nI f) := by
  unfold wpX_openingKey
  refine xi_rgt W C hf hv (hn_4 k) (by rw [k]; decide) ?_
  rw [ew]
  refine ⟨by decide, ?_, ?_⟩
  · rw [ha_d16 (by omega)]
    exact vp_in_nI (by omega) (by decide)
  · rw [ha_d16 (a := f) (by omega), nI_clamp (n := f / 16) (by omega)]
    refine br_f (by rw [k]; decide) ⟨by decide, ?_, ?_⟩
    · rw [ha_d16 (by omega)]
      exact vp_in_nI (by omega) (by decide)
    · rw [ha_d16 (a := w) (by omega), nI_clamp (n := w / 16) (by omega)]
      by_cases k5 : K (w / 16) = 5
      · exact br_t k5 (xi_lft W C hw (hc_g C hw aw) (hn_5 k5) (h1 k5))
      · exact br_f k5 (h0 k5)
theorem yi_fcomp {k u v r : Int32} (W : hp_W n c K L R) (C : hp_C n c K L R A) (nk0 : ¬ k = 0) (nk1 : ¬ k = 1) (hr : hp_r K L R A k u v r) (h : post r) : wpY_findComp post (fN, fT, fP, fc, fe, fr, fs, fp, fk, K, L, R, Ym, E, r0, r1, rc, F, A, Yk) k u v := by
  have w := W.2.2.1
  refine pk_loop (fun f i (_ : Unit) => wY_findComp_3 post k u v fN fT fP fc fe fr fs fp fk K L R Ym E r0 r1 rc F A Yk f (nI i)) (fun i _ => ∀ q, q < i → ¬ hp_q K L R A k u v q) 256 0 () (by omega) (fun q hq => absurd hq (Nat.not_lt_zero q)) ?_ ?_
  · intro f s hq
    refine br_t (nI_le (a := 256) (b := 256) (by omega) (by decide)) ?_
    rcases hr with ⟨g, h1, h2, h3, _⟩ | ⟨h1, _⟩
    · exact absurd h3 (hq g h1)
    · rw [← h1]; exact h
  · intro f j s hj2 hq nx
    have nx : ¬ hp_q K L R A k u v j → ∀ x, x = nI j + 1 → wY_findComp_3 post k u v fN fT fP fc fe fr fs fp fk K L R Ym E r0 r1 rc F A Yk f x := fun z => nm_r (nI_1 j) (nx () (lt_s hq z))
    have fd : hp_q K L R A k u v j → post (nI j) := fun z => by
      rcases hr with ⟨g, h1, h2, h3, h4⟩ | ⟨_, h2⟩
      · have e : g = j := by
          rcases Nat.lt_trichotomy g j with y | y | y
          · exact absurd h3 (hq g y)
          · exact y
          · exact absurd z (h4 j y)
        rw [← e, ← h2]; exact h
      · exact absurd z (h2 j hj2)
    refine br_f (nI_ge (b := 256) hj2 (by decide)) ⟨vp_in_nI hj2 (by decide), ?_⟩
    rw [nI_clamp (by omega)]
    by_cases e : A j = nI j
    · refine br_t e (yi_kk hj2 ?_)
      have hv := hc_g C hj2 e
      by_cases hk : K (j / 16) = k
      · have na : ¬ hp_a K j := fun z => z.elim (fun y => nk0 (hk.symm.trans y)) (fun y => nk1 (hk.symm.trans y))
        refine br_t ((hk_i nk0 nk1).mpr hk) (yi_lft W C hj2 hv na ?_)
        by_cases hu : A (hp_l L j) = u
        · refine br_t hu ?_
          by_cases k5 : k = 5
          · exact br_t k5 (fd ⟨e, hk, hu, Or.inl k5⟩)
          · refine br_f k5 (yi_rgt W C hj2 hv na (by rw [hk]; exact k5) ?_)
            by_cases hvv : A (hp_l R j) = v
            · exact br_t hvv (fd ⟨e, hk, hu, Or.inr hvv⟩)
            · exact br_f hvv (nx (fun z => z.2.2.2.elim k5 hvv))
        · exact br_f hu (nx (fun z => hu z.2.2.1))
      · exact br_f (fun z => hk ((hk_i nk0 nk1).mp z)) (nx (fun z => hk z.2.1))
    · exact br_f e (nx (fun z => e z.1))
theorem xi_mt {x y : Int32} {s : Nat} (hx : x = -1 ∨ ∃ h, h < c ∧ x = nI h) (hc : c ≤ 16) (hs : s < 16) (hy : ¬ x = -1 → vp_in y 32) (h1 : hp_b A x s (F y.toNatClampNeg) → post 1) (h0 : ¬ hp_b A x s (F y.toNatClampNeg) → post 0) : wpX_isMatched post (fN, fT, fP, fp, fc, fe, fr, fs, fk, K, L, R, M, A, Z, E, r0, r1, rc, F) x (nI s) y := by
  by_cases e : x = -1
  · exact br_t e (h1 (Or.inl e))
  · obtain ⟨h, hh, rfl⟩ := hx.resolve_left e
    have e1 : nI h * 16 + nI s = nI (h * 16 + s) := by rw [ha_16, nI_add]
    refine br_f e ?_
    unfold hp_b at h1 h0
    rw [nI_clamp (by omega)] at h1 h0
    rw [e1, nI_clamp (by omega)]
    refine ⟨vp_in_nI (by omega) (by decide), hy e, ?_⟩
    by_cases d : A (h * 16 + s) = F y.toNatClampNeg
    · exact br_t d (h1 (Or.inr d))
    · exact br_f d (h0 (fun z => z.elim e d))
theorem xi_rf {y z r : Int32} {nr : Nat} (W : hp_W n c K L R) (hR : hp_R c nr r0 r1 rc) (hi : i < nr) (h8 : nr ≤ 8) (hy : ¬ r0 i = -1 → vp_in y 32) (hz : ¬ r1 i = -1 → vp_in z 32)
    (hr : hp_z n A (r0 i) (r1 i) (rc i) (F y.toNatClampNeg) (F z.toNatClampNeg) r) (h : post r) : wpX_ruleFact post (nI n, fT, fP, fp, fc, fe, fr, fs, fk, K, L, R, M, A, Z, E, r0, r1, rc, F) (nI i) y z := by
  have w := W.2.2.1
  have w4 := W.2.1
  have hin : vp_in (nI i) 8 := vp_in_nI (by omega) (by decide)
  have hcl : (nI i).toNatClampNeg = i := nI_clamp (by omega)
  obtain ⟨o1, o2, hc, hcc, ec⟩ := hR i hi
  refine pk_loop (fun f vy (_ : Unit) => wX_ruleFact_3 post (nI i) y z (nI n) fT fP fp fc fe fr fs fk K L R M A Z E r0 r1 rc F f (nI vy)) (fun vy _ => ∀ t, t < 4 * vy → hp_V n t → ¬ (hp_b A (r0 i) t (F y.toNatClampNeg) ∧ hp_b A (r1 i) t (F z.toNatClampNeg))) n 0 () (by omega) (fun q hq => absurd hq (Nat.not_lt_zero q)) ?_ ?_
  · intro f s hs
    refine br_t (nI_le (Nat.le_refl _) (by omega)) ?_
    rcases hr with ⟨s, a1, a2, a3, _⟩ | ⟨a1, _⟩
    · exact absurd a3 (hs s (by have := a2.2; omega) a2)
    · rw [← a1]; exact h
  · intro f vy s hvy hs nx
    refine br_f (nI_ge hvy (by omega)) ?_
    refine pk_loop (fun f' vx (_ : Unit) => wX_ruleFact_15 post (wX_ruleFact_3 post (nI i) y z (nI n) fT fP fp fc fe fr fs fk K L R M A Z E r0 r1 rc F f) (nI i) y z (nI vy) (nI n) fT fP fp fc fe fr fs fk K L R M A Z E r0 r1 rc F f' (nI vx)) (fun vx _ => ∀ t, t < 4 * vy + vx → hp_V n t → ¬ (hp_b A (r0 i) t (F y.toNatClampNeg) ∧ hp_b A (r1 i) t (F z.toNatClampNeg))) n 0 () (by omega) hs ?_ ?_
    · intro f' s' hs'
      refine br_t (nI_le (Nat.le_refl _) (by omega)) (nm_r (nI_1 vy) (nx () (fun t ht hv => ?_)))
      by_cases e : t < 4 * vy + n
      · exact hs' t e hv
      · have := hv.1
        omega
    · intro f' vx s' hvx hs' nx'
      have em : nI vx + 4 * nI vy = nI (4 * vy + vx) := by
        rw [ha_4, nI_add]
        exact congrArg nI (by omega)
      have hV : hp_V n (4 * vy + vx) := ⟨by omega, by omega⟩
      have nx' : ¬ (hp_b A (r0 i) (4 * vy + vx) (F y.toNatClampNeg) ∧ hp_b A (r1 i) (4 * vy + vx) (F z.toNatClampNeg)) → ∀ x, x = nI vx + 1 → wX_ruleFact_15 post (wX_ruleFact_3 post (nI i) y z (nI n) fT fP fp fc fe fr fs fk K L R M A Z E r0 r1 rc F f) (nI i) y z (nI vy) (nI n) fT fP fp fc fe fr fs fk K L R M A Z E r0 r1 rc F f' x := fun g =>
        nm_r (nI_1 vx) (nx' () (fun t ht hv => by
          by_cases e : t = 4 * vy + vx
          · rw [e]; exact g
          · exact hs' t (by omega) hv))
      refine br_f (nI_ge hvx (by omega)) (nm_r em ⟨hin, ?_⟩)
      rw [hcl]
      refine xi_mt o1 (by omega) (by omega) hy (fun m1 => br_f (by decide) ⟨hin, xi_mt o2 (by omega) (by omega) hz (fun m2 => br_f (by decide) ⟨hin, ?_⟩) (fun m2 => br_t rfl (nx' (fun g => m2 g.2)))⟩) (fun m1 => br_t rfl (nx' (fun g => m1 g.1)))
      have e1 : rc i * 16 + nI (4 * vy + vx) = nI (hc * 16 + (4 * vy + vx)) := by rw [ec, ha_16, nI_add]
      rw [e1, nI_clamp (by omega)]
      refine ⟨vp_in_nI (by omega) (by decide), ?_⟩
      rcases hr with ⟨s, a1, a2, a3, a4, a5⟩ | ⟨a1, a2⟩
      · have e : s = 4 * vy + vx := by
          rcases Nat.lt_trichotomy s (4 * vy + vx) with q | q | q
          · exact absurd a3 (hs' s q a2)
          · exact q
          · exact absurd ⟨m1, m2⟩ (a4 _ q hV)
        rw [ec, nI_clamp (by omega), e] at a5
        rw [← a5]; exact h
      · exact absurd ⟨m1, m2⟩ (a2 _ (by omega) hV)
theorem yi_rs {y z r : Int32} {nr : Nat} (W : hp_W n c K L R) (hR : hp_R c nr r0 r1 rc) (hi : i < nr) (h8 : nr ≤ 8) (hy : ¬ r0 i = -1 → vp_in y 32) (hz : ¬ r1 i = -1 → vp_in z 32)
    (hr : hp_z n A (r0 i) (r1 i) (rc i) (F y.toNatClampNeg) (F z.toNatClampNeg) r) (h : post r) : wpY_ruleStep post (nI n, fT, fP, fc, fe, fr, fs, fp, fk, K, L, R, Ym, E, r0, r1, rc, F, A, Yk) (nI i) y z := by
  have w := W.2.2.1
  have w4 := W.2.1
  have hin : vp_in (nI i) 8 := vp_in_nI (by omega) (by decide)
  have hcl : (nI i).toNatClampNeg = i := nI_clamp (by omega)
  obtain ⟨o1, o2, hc, hcc, ec⟩ := hR i hi
  refine pk_loop (fun f s (_ : Unit) => wY_ruleStep_3 post (nI i) y z (nI n) fT fP fc fe fr fs fp fk K L R Ym E r0 r1 rc F A Yk f (nI s)) (fun s _ => ∀ t, t < s → hp_V n t → ¬ (hp_b A (r0 i) t (F y.toNatClampNeg) ∧ hp_b A (r1 i) t (F z.toNatClampNeg))) 16 0 () (by omega) (fun q hq => absurd hq (Nat.not_lt_zero q)) ?_ ?_
  · intro f s hs
    refine br_t (nI_le (a := 16) (b := 16) (by omega) (by decide)) ?_
    rcases hr with ⟨s, a1, a2, a3, _⟩ | ⟨a1, _⟩
    · exact absurd a3 (hs s a1 a2)
    · rw [← a1]; exact h
  · intro f s _ hs16 hs nx
    have nx : (hp_V n s → ¬ (hp_b A (r0 i) s (F y.toNatClampNeg) ∧ hp_b A (r1 i) s (F z.toNatClampNeg))) → ∀ x, x = nI s + 1 → wY_ruleStep_3 post (nI i) y z (nI n) fT fP fc fe fr fs fp fk K L R Ym E r0 r1 rc F A Yk f x := fun g =>
      nm_r (nI_1 s) (nx () (fun t ht hv => by
        by_cases e : t = s
        · rw [e] at hv ⊢; exact g hv
        · exact hs t (by omega) hv))
    refine br_f (nI_ge (b := 16) hs16 (by decide)) (yi_vc w4 hs16 (fun hV => br_f (by decide) ⟨hin, ?_⟩) (fun hV => br_t rfl (nx (fun g => absurd g hV))))
    have e1 : ∀ h, h < c → (nI h * 16 + nI s) &&& 255 = nI (h * 16 + s) := fun h hh => by
      rw [ha_16, nI_add, ha_a255 (by omega)]
    have fin : hp_b A (r0 i) s (F y.toNatClampNeg) → hp_b A (r1 i) s (F z.toNatClampNeg) → wY_ruleStep_108 post (nI i) (nI s) (nI n) fT fP fc fe fr fs fp fk K L R Ym E r0 r1 rc F A Yk := fun m1 m2 => by
      refine ⟨hin, ?_⟩
      rw [hcl, ec, e1 hc hcc, nI_clamp (by omega)]
      refine ⟨vp_in_nI (by omega) (by decide), ?_⟩
      rcases hr with ⟨s', a1, a2, a3, a4, a5⟩ | ⟨a1, a2⟩
      · have e : s' = s := by
          rcases Nat.lt_trichotomy s' s with q | q | q
          · exact absurd a3 (hs s' q a2)
          · exact q
          · exact absurd ⟨m1, m2⟩ (a4 _ q hV)
        rw [ec, nI_clamp (by omega), e] at a5
        rw [← a5]; exact h
      · exact absurd ⟨m1, m2⟩ (a2 _ hs16 hV)
    have h65 : hp_b A (r0 i) s (F y.toNatClampNeg) → wY_ruleStep_65 post (wY_ruleStep_3 post (nI i) y z (nI n) fT fP fc fe fr fs fp fk K L R Ym E r0 r1 rc F A Yk f) (nI i) y z (nI s) (nI n) fT fP fc fe fr fs fp fk K L R Ym E r0 r1 rc F A Yk := fun m1 => by
      refine ⟨hin, ?_⟩
      rw [hcl]
      by_cases e : r1 i = -1
      · exact br_t e (fin m1 (Or.inl e))
      · obtain ⟨h2, hh2, e2⟩ := o2.resolve_left e
        refine br_f e ⟨hin, ?_⟩
        have k2 : hp_b A (r1 i) s (F z.toNatClampNeg) ↔ A (h2 * 16 + s) = F z.toNatClampNeg := by
          unfold hp_b
          rw [e2, nI_clamp (by omega)]
          exact ⟨fun g => g.elim (fun y => absurd y (ha_ne1 (by omega))) id, Or.inr⟩
        rw [e2, e1 h2 hh2, nI_clamp (by omega)]
        refine ⟨vp_in_nI (by omega) (by decide), hz e, ?_⟩
        by_cases d : A (h2 * 16 + s) = F z.toNatClampNeg
        · exact br_t d (fin m1 (k2.mpr d))
        · exact br_f d (nx (fun _ g => d (k2.mp g.2)))
    rw [hcl]
    by_cases e : r0 i = -1
    · exact br_t e (h65 (Or.inl e))
    · obtain ⟨h2, hh2, e2⟩ := o1.resolve_left e
      refine br_f e ⟨hin, ?_⟩
      have k2 : hp_b A (r0 i) s (F y.toNatClampNeg) ↔ A (h2 * 16 + s) = F y.toNatClampNeg := by
        unfold hp_b
        rw [e2, nI_clamp (by omega)]
        exact ⟨fun g => g.elim (fun y => absurd y (ha_ne1 (by omega))) id, Or.inr⟩
      have e3 := e1 h2 hh2
      rw [← e2] at e3
      rw [e3, nI_clamp (n := h2 * 16 + s) (by omega)]
      refine ⟨vp_in_nI (by omega) (by decide), hy e, ?_⟩
      by_cases d : A (h2 * 16 + s) = F y.toNatClampNeg
      · exact br_t d (h65 (k2.mpr d))
      · exact br_f d (nx (fun _ g => d (k2.mp g.1)))
end HXF
end
section
/-! step -/
section HT
variable {n tm pm c ne nr ns : Nat} {ph kn : Int32} {K L R M A Z E r0 r1 rc F Ym Yc Yk : Nat → Int32} {q : Nat}
theorem xs_fin {P : Int32 → SX → Prop} {r : Int32} (J : hp_J n tm pm c ne nr ns ph kn K L R M A Z E r0 r1 rc F Ym Yc Yk) (p1 : ph = 1) (hs : ns < pm) (ho : hp_o A r)
    (hP : ∀ ra u', wY_step_458 (fun r' v' => r' = ra ∧ i_Rel q u' v') r (nI n) (nI tm) (nI pm) (nI c) (nI ne) (nI nr) (nI ns) ph kn K L R M E r0 r1 rc F A Yk → P ra u') :
    (r = -1 → P (-10) (nI n, nI tm, nI pm, ph, nI c, nI ne, nI nr, nI ns, kn, K, L, R, M, A, Z, E, r0, r1, rc, F)) ∧ (¬ r = -1 → (vp_in (nI ns) 32 ∧ ∀ a, a = upd F (nI ns).toNatClampNeg r → ∀ x, x = nI ns + 1 → P (nI ns) (nI n, nI tm, nI pm, ph, nI c, nI ne, nI nr, x, kn, K, L, R, M, A, Z, E, r0, r1, rc, a))) := by
  obtain ⟨b1, b2, b3, b4, b5, b6, b7, b8⟩ := hj_b J
  have hin : vp_in (nI ns) 32 := vp_in_nI (by omega) (by decide)
  have hcl : (nI ns).toNatClampNeg = ns := nI_clamp (by omega)
  rcases ho with rfl | ⟨g, g1, rfl, g3⟩
  · exact br_t rfl (hP _ _ (br_f (by decide) ⟨rfl, hj_mk (hj_ref J)⟩))
  · refine br_f (ha_ne1 (by omega)) ⟨hin, nm_r (e' := upd F ns (nI g)) (by rw [hcl]) (nm_r (nI_1 ns) (hP _ _ (br_t (nI_pos' (by omega)) ⟨hin, nm_r (e' := upd F ns (nI g)) (by rw [hcl]) (nm_r (nI_1 ns) ⟨nI_pred ns, ?_⟩)⟩)))⟩
    refine hj_mk ⟨⟨J.1.1, b2, b3, b4, b5, b6, b7, by omega⟩, J.2.1, ⟨J.2.2.1.1, J.2.2.1.2.1, ?_⟩, ⟨J.2.1.2.1, J.2.1.2.2.2⟩, Or.inr (J.2.2.2.2.elim (fun z => absurd (p1.symm.trans z.1) (by decide)) id)⟩
    intro j hj
    by_cases e : j = ns
    · subst e
      exact ⟨g, g1, pk_us, g3⟩
    · rw [pk_un e]
      exact J.2.2.1.2.2 j (by omega)
theorem xi_rr {post : Int32 → Prop} {i : Nat} {v3 v4 : Int32} (hi : i < nr) (h8 : nr ≤ 8) (h32 : ns ≤ 32) (h0 : (¬ r0 i = -1 → ∃ j, j < ns ∧ v3 = nI j) → (¬ r1 i = -1 → ∃ j, j < ns ∧ v4 = nI j) → post 0)
    (h3 : ¬ r0 i = -1 → (v3 < 0 ∨ nI ns ≤ v3) → post (-9)) (h4 : (¬ r0 i = -1 → ∃ j, j < ns ∧ v3 = nI j) → ¬ r1 i = -1 → (v4 < 0 ∨ nI ns ≤ v4) → post (-9)) : wpX_ruleRefusal post (nI n, nI tm, nI pm, ph, nI c, nI ne, nI nr, nI ns, kn, K, L, R, M, A, Z, E, r0, r1, rc, F) (nI i) v3 v4 := by
  have hii : vp_in (nI i) 8 := vp_in_nI (by omega) (by decide)
  have ci : (nI i).toNatClampNeg = i := nI_clamp (by omega)
  have main : (¬ r0 i = -1 → ∃ j, j < ns ∧ v3 = nI j) → wX_ruleRefusal_36 post (nI i) v4 (nI n) (nI tm) (nI pm) ph (nI c) (nI ne) (nI nr) (nI ns) kn K L R M A Z E r0 r1 rc F := fun g3 => by
    refine ⟨hii, ?_⟩
    rw [ci]
    by_cases e : r1 i = -1
    · exact br_t e (h0 g3 (fun z => absurd e z))
    · rcases hp_ix v4 (c := ns) (by omega) with ⟨j, hj, rfl⟩ | h5
      · exact br_f e (xi_s1 hj (by omega) (br_f (by decide) (h0 g3 (fun _ => ⟨j, hj, rfl⟩))))
      · exact br_f e (xi_s0 h5 (br_t rfl (h4 g3 e h5)))
  refine hb_i2 hi (by omega) ⟨hii, ?_⟩
  rw [ci]
  by_cases e : r0 i = -1
  · exact br_t e (main (fun z => absurd e z))
  · rcases hp_ix v3 (c := ns) (by omega) with ⟨j, hj, rfl⟩ | h5
    · exact br_f e (xi_s1 hj (by omega) (br_f (by decide) (main (fun _ => ⟨j, hj, rfl⟩))))
    · exact br_f e (xi_s0 h5 (br_t rfl (h3 e h5)))
theorem xi_rr0 {post : Int32 → Prop} {v2 v3 v4 : Int32} (h : v2 < 0 ∨ nI nr ≤ v2) (hp : post (-4)) : wpX_ruleRefusal post (nI n, nI tm, nI pm, ph, nI c, nI ne, nI nr, nI ns, kn, K, L, R, M, A, Z, E, r0, r1, rc, F) v2 v3 v4 := hb_o2 h hp
theorem hj_hv (J : hp_J n tm pm c ne nr ns ph kn K L R M A Z E r0 r1 rc F Ym Yc Yk) : ∀ g, g < 256 → A g = nI g → g / 16 < c := fun g hg e => (hc_g J.2.1.1 hg e).1
theorem sx_1 (J : hp_J n tm pm c ne nr ns ph kn K L R M A Z E r0 r1 rc F Ym Yc Yk) (p1 : ph = 1) (hs : ns < pm) (v2 v3 v4 : Int32) : wpX_step (fun r u' => wpY_step (fun r' v' => r' = r ∧ i_Rel q u' v') (nI n, nI tm, nI pm, nI c, nI ne, nI nr, nI ns, ph, kn, K, L, R, Ym, E, r0, r1, rc, F, Yc, Yk) (nI 1) v2 v3 v4) (nI n, nI tm, nI pm, ph, nI c, nI ne, nI nr, nI ns, kn, K, L, R, M, A, Z, E, r0, r1, rc, F) (nI 1) v2 v3 v4 := by
  obtain ⟨b1, b2, b3, b4, b5, b6, b7, b8⟩ := hj_b J
  have q0 : ¬ ph = 0 := by rw [p1]; decide
  have hlt : nI ns < nI pm := nI_lt hs (by omega)
  have W := J.1.1
  have C := J.2.1.1
  have I' := hj_mk (k := q) J
  refine br_f q0 (br_t hlt (br_f (by decide) (br_t (by decide) ?_)))
  refine br_f (by decide) (br_f (by decide) (br_f (by decide) (br_t rfl (?_))))
  have hy : ∀ post : Int32 → SY → Prop, wY_step_110 post (nI 1) v2 v3 v4 (nI n) (nI tm) (nI pm) (nI c) (nI ne) (nI nr) (nI ns) ph kn K L R Ym E r0 r1 rc F Yc Yk → wpY_step post (nI n, nI tm, nI pm, nI c, nI ne, nI nr, nI ns, ph, kn, K, L, R, Ym, E, r0, r1, rc, F, Yc, Yk) (nI 1) v2 v3 v4 := fun post h => br_f q0 (br_t hlt (br_f (by decide) (br_t (by decide) (br_f (by decide) (br_f (by decide) (br_f (by decide) (br_f (by decide) (br_t rfl (h)))))))))
  rcases hp_ix v2 (c := ns) (by omega) with ⟨i, hi, rfl⟩ | h2
  · rcases hp_ix v3 (c := ns) (by omega) with ⟨j, hj, rfl⟩ | h3
    · have hii : vp_in (nI i) 32 := vp_in_nI (by omega) (by decide)
      have hij : vp_in (nI j) 32 := vp_in_nI (by omega) (by decide)
      have ci : (nI i).toNatClampNeg = i := nI_clamp (by omega)
      have cj : (nI j).toNatClampNeg = j := nI_clamp (by omega)
      have h196 : ∀ post : Int32 → SY → Prop, wY_step_196 post (nI 1) (nI i) (nI j) v4 (nI n) (nI tm) (nI pm) (nI c) (nI ne) (nI nr) (nI ns) ph kn K L R Ym E r0 r1 rc F Yc Yk → wpY_step post (nI n, nI tm, nI pm, nI c, nI ne, nI nr, nI ns, ph, kn, K, L, R, Ym, E, r0, r1, rc, F, Yc, Yk) (nI 1) (nI i) (nI j) v4 := fun post h => hy _ (yi_s1 hi (by omega) (br_f (by decide) (yi_s1 hj (by omega) (br_f (by decide) (br_f (by decide) h)))))
      refine xi_s1 hi (by omega) (br_f (by decide) (xi_s1 hj (by omega) (br_f (by decide) (br_t (by decide) ?_))))
      obtain ⟨r, hr⟩ := hr_ex (K := K) (L := L) (R := R) (A := A) 2 (F i) (F j)
      refine br_f (by decide) (br_f (by decide) (br_f (by decide) (br_t rfl (⟨hii, hij, ?_⟩))))
      rw [ci, cj]
      refine xi_find W (hj_hv J) (by decide) (fun z => absurd z (by decide)) hr (xs_fin (q := q) (P := fun r u' => wpY_step (fun r' v' => r' = r ∧ i_Rel q u' v') (nI n, nI tm, nI pm, nI c, nI ne, nI nr, nI ns, ph, kn, K, L, R, Ym, E, r0, r1, rc, F, Yc, Yk) (nI 1) (nI i) (nI j) v4) J p1 hs (ho_r hr) (fun ra u' h => ?_))
      refine h196 _ (yj_ref J (br_f (by decide) (br_f (by decide) (br_t rfl (⟨hii, hij, ?_⟩)))))
      rw [ci, cj, show (nI 1 : Int32) + 1 = 2 from by decide]
      exact yi_fcomp W C (by decide) (by decide) hr h
    · exact xi_s1 hi (by omega) (br_f (by decide) (xi_s0 h3 (br_t rfl (br_f (by decide) (hy _ (yi_s1 hi (by omega) (br_f (by decide) (yi_s0 h3 (br_t rfl ⟨rfl, I'⟩)))))))))
  · exact xi_s0 h2 (br_t rfl (br_f (by decide) (hy _ (yi_s0 h2 (br_t rfl ⟨rfl, I'⟩)))))
theorem sx_2 (J : hp_J n tm pm c ne nr ns ph kn K L R M A Z E r0 r1 rc F Ym Yc Yk) (p1 : ph = 1) (hs : ns < pm) (v2 v3 v4 : Int32) : wpX_step (fun r u' => wpY_step (fun r' v' => r' = r ∧ i_Rel q u' v') (nI n, nI tm, nI pm, nI c, nI ne, nI nr, nI ns, ph, kn, K, L, R, Ym, E, r0, r1, rc, F, Yc, Yk) (nI 2) v2 v3 v4) (nI n, nI tm, nI pm, ph, nI c, nI ne, nI nr, nI ns, kn, K, L, R, M, A, Z, E, r0, r1, rc, F) (nI 2) v2 v3 v4 := by
  obtain ⟨b1, b2, b3, b4, b5, b6, b7, b8⟩ := hj_b J
  have q0 : ¬ ph = 0 := by rw [p1]; decide
  have hlt : nI ns < nI pm := nI_lt hs (by omega)
  have W := J.1.1
  have C := J.2.1.1
  have I' := hj_mk (k := q) J
  refine br_f q0 (br_t hlt (br_f (by decide) (br_t (by decide) ?_)))
  refine br_f (by decide) (br_f (by decide) (br_f (by decide) (br_f (by decide) (br_t rfl (?_)))))
  have hy : ∀ post : Int32 → SY → Prop, wY_step_110 post (nI 2) v2 v3 v4 (nI n) (nI tm) (nI pm) (nI c) (nI ne) (nI nr) (nI ns) ph kn K L R Ym E r0 r1 rc F Yc Yk → wpY_step post (nI n, nI tm, nI pm, nI c, nI ne, nI nr, nI ns, ph, kn, K, L, R, Ym, E, r0, r1, rc, F, Yc, Yk) (nI 2) v2 v3 v4 := fun post h => br_f q0 (br_t hlt (br_f (by decide) (br_t (by decide) (br_f (by decide) (br_f (by decide) (br_f (by decide) (br_f (by decide) (br_f (by decide) (br_t rfl (h))))))))))
  rcases hp_ix v2 (c := ns) (by omega) with ⟨i, hi, rfl⟩ | h2
  · rcases hp_ix v3 (c := ns) (by omega) with ⟨j, hj, rfl⟩ | h3
    · have hii : vp_in (nI i) 32 := vp_in_nI (by omega) (by decide)
      have hij : vp_in (nI j) 32 := vp_in_nI (by omega) (by decide)
      have ci : (nI i).toNatClampNeg = i := nI_clamp (by omega)
      have cj : (nI j).toNatClampNeg = j := nI_clamp (by omega)
      have h196 : ∀ post : Int32 → SY → Prop, wY_step_196 post (nI 2) (nI i) (nI j) v4 (nI n) (nI tm) (nI pm) (nI c) (nI ne) (nI nr) (nI ns) ph kn K L R Ym E r0 r1 rc F Yc Yk → wpY_step post (nI n, nI tm, nI pm, nI c, nI ne, nI nr, nI ns, ph, kn, K, L, R, Ym, E, r0, r1, rc, F, Yc, Yk) (nI 2) (nI i) (nI j) v4 := fun post h => hy _ (yi_s1 hi (by omega) (br_f (by decide) (yi_s1 hj (by omega) (br_f (by decide) (br_f (by decide) h)))))
      refine xi_s1 hi (by omega) (br_f (by decide) (xi_s1 hj (by omega) (br_f (by decide) (br_t (by decide) ?_))))
      obtain ⟨r, hr⟩ := hr_ex (K := K) (L := L) (R := R) (A := A) 3 (F i) (F j)
      refine br_f (by decide) (br_f (by decide) (br_f (by decide) (br_f (by decide) (br_t rfl (⟨hii, hij, ?_⟩)))))
      rw [ci, cj]
      refine xi_find W (hj_hv J) (by decide) (fun z => absurd z (by decide)) hr (xs_fin (q := q) (P := fun r u' => wpY_step (fun r' v' => r' = r ∧ i_Rel q u' v') (nI n, nI tm, nI pm, nI c, nI ne, nI nr, nI ns, ph, kn, K, L, R, Ym, E, r0, r1, rc, F, Yc, Yk) (nI 2) (nI i) (nI j) v4) J p1 hs (ho_r hr) (fun ra u' h => ?_))
      refine h196 _ (yj_ref J (br_f (by decide) (br_f (by decide) (br_f (by decide) (br_t rfl (⟨hii, hij, ?_⟩))))))
      rw [ci, cj, show (nI 2 : Int32) + 1 = 3 from by decide]
      exact yi_fcomp W C (by decide) (by decide) hr h
    · exact xi_s1 hi (by omega) (br_f (by decide) (xi_s0 h3 (br_t rfl (br_f (by decide) (hy _ (yi_s1 hi (by omega) (br_f (by decide) (yi_s0 h3 (br_t rfl ⟨rfl, I'⟩)))))))))
  · exact xi_s0 h2 (br_t rfl (br_f (by decide) (hy _ (yi_s0 h2 (br_t rfl ⟨rfl, I'⟩)))))
theorem sx_3 (J : hp_J n tm pm c ne nr ns ph kn K L R M A Z E r0 r1 rc F Ym Yc Yk) (p1 : ph = 1) (hs : ns < pm) (v2 v3 v4 : Int32) : wpX_step (fun r u' => wpY_step (fun r' v' => r' = r ∧ i_Rel q u' v') (nI n, nI tm, nI pm, nI c, nI ne, nI nr, nI ns, ph, kn, K, L, R, Ym, E, r0, r1, rc, F, Yc, Yk) (nI 3) v2 v3 v4) (nI n, nI tm, nI pm, ph, nI c, nI ne, nI nr, nI ns, kn, K, L, R, M, A, Z, E, r0, r1, rc, F) (nI 3) v2 v3 v4 := by
  obtain ⟨b1, b2, b3, b4, b5, b6, b7, b8⟩ := hj_b J
  have q0 : ¬ ph = 0 := by rw [p1]; decide
  have hlt : nI ns < nI pm := nI_lt hs (by omega)
  have W := J.1.1
  have C := J.2.1.1
  have I' := hj_mk (k := q) J
  refine br_f q0 (br_t hlt (br_f (by decide) (br_t (by decide) ?_)))
  refine br_f (by decide) (br_f (by decide) (br_f (by decide) (br_f (by decide) (br_f (by decide) (br_t rfl (?_))))))
  have hy : ∀ post : Int32 → SY → Prop, wY_step_110 post (nI 3) v2 v3 v4 (nI n) (nI tm) (nI pm) (nI c) (nI ne) (nI nr) (nI ns) ph kn K L R Ym E r0 r1 rc F Yc Yk → wpY_step post (nI n, nI tm, nI pm, nI c, nI ne, nI nr, nI ns, ph, kn, K, L, R, Ym, E, r0, r1, rc, F, Yc, Yk) (nI 3) v2 v3 v4 := fun post h => br_f q0 (br_t hlt (br_f (by decide) (br_t (by decide) (br_f (by decide) (br_f (by decide) (br_f (by decide) (br_f (by decide) (br_f (by decide) (br_f (by decide) (br_t rfl (h)))))))))))
  rcases hp_ix v2 (c := ns) (by omega) with ⟨i, hi, rfl⟩ | h2
  · rcases hp_ix v3 (c := ns) (by omega) with ⟨j, hj, rfl⟩ | h3
    · have hii : vp_in (nI i) 32 := vp_in_nI (by omega) (by decide)
      have hij : vp_in (nI j) 32 := vp_in_nI (by omega) (by decide)
      have ci : (nI i).toNatClampNeg = i := nI_clamp (by omega)
      have cj : (nI j).toNatClampNeg = j := nI_clamp (by omega)
      have h196 : ∀ post : Int32 → SY → Prop, wY_step_196 post (nI 3) (nI i) (nI j) v4 (nI n) (nI tm) (nI pm) (nI c) (nI ne) (nI nr) (nI ns) ph kn K L R Ym E r0 r1 rc F Yc Yk → wpY_step post (nI n, nI tm, nI pm, nI c, nI ne, nI nr, nI ns, ph, kn, K, L, R, Ym, E, r0, r1, rc, F, Yc, Yk) (nI 3) (nI i) (nI j) v4 := fun post h => hy _ (yi_s1 hi (by omega) (br_f (by decide) (yi_s1 hj (by omega) (br_f (by decide) (br_f (by decide) h)))))
      refine xi_s1 hi (by omega) (br_f (by decide) (xi_s1 hj (by omega) (br_f (by decide) (br_t (by decide) ?_))))
      obtain ⟨r, hr⟩ := hr_ex (K := K) (L := L) (R := R) (A := A) 4 (F i) (F j)
      refine br_f (by decide) (br_f (by decide) (br_f (by decide) (br_f (by decide) (br_f (by decide) (br_t rfl (⟨hii, hij, ?_⟩))))))
      rw [ci, cj]
      refine xi_find W (hj_hv J) (by decide) (fun z => absurd z (by decide)) hr (xs_fin (q := q) (P := fun r u' => wpY_step (fun r' v' => r' = r ∧ i_Rel q u' v') (nI n, nI tm, nI pm, nI c, nI ne, nI nr, nI ns, ph, kn, K, L, R, Ym, E, r0, r1, rc, F, Yc, Yk) (nI 3) (nI i) (nI j) v4) J p1 hs (ho_r hr) (fun ra u' h => ?_))
      refine h196 _ (yj_ref J (br_f (by decide) (br_f (by decide) (br_f (by decide) (br_f (by decide) (br_t rfl (⟨hii, hij, ?_⟩)))))))
      rw [ci, cj, show (nI 3 : Int32) + 1 = 4 from by decide]
      exact yi_fcomp W C (by decide) (by decide) hr h
    · exact xi_s1 hi (by omega) (br_f (by decide) (xi_s0 h3 (br_t rfl (br_f (by decide) (hy _ (yi_s1 hi (by omega) (br_f (by decide) (yi_s0 h3 (br_t rfl ⟨rfl, I'⟩)))))))))
  · exact xi_s0 h2 (br_t rfl (br_f (by decide) (hy _ (yi_s0 h2 (br_t rfl ⟨rfl, I'⟩)))))
theorem sx_4 (J : hp_J n tm pm c ne nr ns ph kn K L R M A Z E r0 r1 rc F Ym Yc Yk) (p1 : ph = 1) (hs : ns < pm) (v2 v3 v4 : Int32) : wpX_step (fun r u' => wpY_step (fun r' v' => r' = r ∧ i_Rel q u' v') (nI n, nI tm, nI pm, nI c, nI ne, nI nr, nI ns, ph, kn, K, L, R, Ym, E, r0, r1, rc, F, Yc, Yk) (nI 4) v2 v3 v4) (nI n, nI tm, nI pm, ph, nI c, nI ne, nI nr, nI ns, kn, K, L, R, M, A, Z, E, r0, r1, rc, F) (nI 4) v2 v3 v4 := by
  obtain ⟨b1, b2, b3, b4, b5, b6, b7, b8⟩ := hj_b J
  have q0 : ¬ ph = 0 := by rw [p1]; decide
  have hlt : nI ns < nI pm := nI_lt hs (by omega)
  have W := J.1.1
  have C := J.2.1.1
  have I' := hj_mk (k := q) J
  refine br_f q0 (br_t hlt (br_f (by decide) (br_t (by decide) ?_)))
  refine br_f (by decide) (br_f (by decide) (br_f (by decide) (br_f (by decide) (br_f (by decide) (br_f (by decide) (br_t rfl (?_)))))))
  have hy : ∀ post : Int32 → SY → Prop, wY_step_72 post (nI 4) v2 v3 v4 (nI n) (nI tm) (nI pm) (nI c) (nI ne) (nI nr) (nI ns) ph kn K L R Ym E r0 r1 rc F Yc Yk → wpY_step post (nI n, nI tm, nI pm, nI c, nI ne, nI nr, nI ns, ph, kn, K, L, R, Ym, E, r0, r1, rc, F, Yc, Yk) (nI 4) v2 v3 v4 := fun post h => br_f q0 (br_t hlt (br_f (by decide) (br_t (by decide) (br_f (by decide) (br_t rfl (h))))))
  rcases hp_ix v2 (c := ns) (by omega) with ⟨i, hi, rfl⟩ | h2
  · have hii : vp_in (nI i) 32 := vp_in_nI (by omega) (by decide)
    have ci : (nI i).toNatClampNeg = i := nI_clamp (by omega)
    have h196 : ∀ post : Int32 → SY → Prop, wY_step_196 post (nI 4) (nI i) v3 v4 (nI n) (nI tm) (nI pm) (nI c) (nI ne) (nI nr) (nI ns) ph kn K L R Ym E r0 r1 rc F Yc Yk → wpY_step post (nI n, nI tm, nI pm, nI c, nI ne, nI nr, nI ns, ph, kn, K, L, R, Ym, E, r0, r1, rc, F, Yc, Yk) (nI 4) (nI i) v3 v4 := fun post h => hy _ (yi_s1 hi (by omega) (br_f (by decide) (br_f (by decide) (br_f (by decide) (br_f (by decide) (br_f (by decide) (br_f (by decide) (br_f (by decide) h))))))))
    refine xi_s1 hi (by omega) (br_f (by decide) (br_t (by decide) ?_))
    obtain ⟨r, hr⟩ := hr_ex (K := K) (L := L) (R := R) (A := A) 5 (F i) (-1)
    refine br_f (by decide) (br_f (by decide) (br_f (by decide) (br_f (by decide) (br_f (by decide) (br_f (by decide) (br_t rfl (⟨hii, ?_⟩)))))))
    rw [ci]
    refine xi_find W (hj_hv J) (by decide) (fun _ => rfl) hr (xs_fin (q := q) (P := fun r u' => wpY_step (fun r' v' => r' = r ∧ i_Rel q u' v') (nI n, nI tm, nI pm, nI c, nI ne, nI nr, nI ns, ph, kn, K, L, R, Ym, E, r0, r1, rc, F, Yc, Yk) (nI 4) (nI i) v3 v4) J p1 hs (ho_r hr) (fun ra u' h => ?_))
    refine h196 _ (yj_ref J (br_f (by decide) (br_f (by decide) (br_f (by decide) (br_f (by decide) (br_f (by decide) (br_t rfl (⟨hii, ?_⟩))))))))
    rw [ci]
    exact yi_fcomp W C (by decide) (by decide) hr h
  · exact xi_s0 h2 (br_t rfl (br_f (by decide) (hy _ (yi_s0 h2 (br_t rfl ⟨rfl, I'⟩)))))
theorem sx_5 (J : hp_J n tm pm c ne nr ns ph kn K L R M A Z E r0 r1 rc F Ym Yc Yk) (p1 : ph = 1) (hs : ns < pm) (v2 v3 v4 : Int32) : wpX_step (fun r u' => wpY_step (fun r' v' => r' = r ∧ i_Rel q u' v') (nI n, nI tm, nI pm, nI c, nI ne, nI nr, nI ns, ph, kn, K, L, R, Ym, E, r0, r1, rc, F, Yc, Yk) (nI 5) v2 v3 v4) (nI n, nI tm, nI pm, ph, nI c, nI ne, nI nr, nI ns, kn, K, L, R, M, A, Z, E, r0, r1, rc, F) (nI 5) v2 v3 v4 := by
  obtain ⟨b1, b2, b3, b4, b5, b6, b7, b8⟩ := hj_b J
  have q0 : ¬ ph = 0 := by rw [p1]; decide
  have hlt : nI ns < nI pm := nI_lt hs (by omega)
  have W := J.1.1
  have C := J.2.1.1
  have I' := hj_mk (k := q) J
  refine br_f q0 (br_t hlt (br_f (by decide) (br_t (by decide) ?_)))
  refine br_f (by decide) (br_f (by decide) (br_f (by decide) (br_f (by decide) (br_f (by decide) (br_f (by decide) (br_f (by decide) (br_t rfl (?_))))))))
  have hy : ∀ post : Int32 → SY → Prop, wY_step_72 post (nI 5) v2 v3 v4 (nI n) (nI tm) (nI pm) (nI c) (nI ne) (nI nr) (nI ns) ph kn K L R Ym E r0 r1 rc F Yc Yk → wpY_step post (nI n, nI tm, nI pm, nI c, nI ne, nI nr, nI ns, ph, kn, K, L, R, Ym, E, r0, r1, rc, F, Yc, Yk) (nI 5) v2 v3 v4 := fun post h => br_f q0 (br_t hlt (br_f (by decide) (br_t (by decide) (br_f (by decide) (br_f (by decide) (br_t rfl (h)))))))
  rcases hp_ix v2 (c := ns) (by omega) with ⟨i, hi, rfl⟩ | h2
  · have hii : vp_in (nI i) 32 := vp_in_nI (by omega) (by decide)
    have ci : (nI i).toNatClampNeg = i := nI_clamp (by omega)
    have h196 : ∀ post : Int32 → SY → Prop, wY_step_196 post (nI 5) (nI i) v3 v4 (nI n) (nI tm) (nI pm) (nI c) (nI ne) (nI nr) (nI ns) ph kn K L R Ym E r0 r1 rc F Yc Yk → wpY_step post (nI n, nI tm, nI pm, nI c, nI ne, nI nr, nI ns, ph, kn, K, L, R, Ym, E, r0, r1, rc, F, Yc, Yk) (nI 5) (nI i) v3 v4 := fun post h => hy _ (yi_s1 hi (by omega) (br_f (by decide) (br_f (by decide) (br_f (by decide) (br_f (by decide) (br_f (by decide) (br_f (by decide) (br_f (by decide) h))))))))
    refine xi_s1 hi (by omega) (br_f (by decide) (br_t (by decide) ?_))
    obtain ⟨f, hf, ef, af⟩ := J.2.2.1.2.2 i hi
    have hv := hc_g C hf af
    refine br_f (by decide) (br_f (by decide) (br_f (by decide) (br_f (by decide) (br_f (by decide) (br_f (by decide) (br_f (by decide) (br_t rfl (⟨hii, ?_⟩))))))))
    rw [ci, ef]
    by_cases k2 : K (f / 16) = 2
    · obtain ⟨l, x, _, _, _, x1, x2, x3, _⟩ := hc_l W C hv (hn_2 k2)
      refine xi_knd hf (fun _ => br_f (by decide) ⟨hii, xi_lft W C hf hv (hn_2 k2) (xs_fin (q := q) (P := fun r u' => wpY_step (fun r' v' => r' = r ∧ i_Rel q u' v') (nI n, nI tm, nI pm, nI c, nI ne, nI nr, nI ns, ph, kn, K, L, R, Ym, E, r0, r1, rc, F, Yc, Yk) (nI 5) (nI i) v3 v4) J p1 hs (Or.inr ⟨x, x1, x2, x3⟩) (fun ra u' h => h196 _ (yj_ref J (br_f (by decide) (br_f (by decide) (br_f (by decide) (br_f (by decide) (br_f (by decide) (br_f (by decide) (⟨hii, nm_r (e' := nI f) (by rw [ci, ef]) (yi_kk hf (br_t rfl (br_t ((hk_i (by decide) (by decide)).mpr k2) (yi_lft W C hf hv (hn_2 k2) (br_f (by decide) (br_f (by decide) (br_f (by decide) (h))))))))⟩))))))))))⟩) (fun z => absurd k2 z)
    · refine xi_knd hf (fun z => absurd z k2) (fun _ => br_t rfl (xs_fin (q := q) (P := fun r u' => wpY_step (fun r' v' => r' = r ∧ i_Rel q u' v') (nI n, nI tm, nI pm, nI c, nI ne, nI nr, nI ns, ph, kn, K, L, R, Ym, E, r0, r1, rc, F, Yc, Yk) (nI 5) (nI i) v3 v4) J p1 hs (Or.inl rfl) (fun ra u' h => h196 _ (yj_ref J (br_f (by decide) (br_f (by decide) (br_f (by decide) (br_f (by decide) (br_f (by decide) (br_f (by decide) (⟨hii, nm_r (e' := nI f) (by rw [ci, ef]) (yi_kk hf (br_t rfl (br_f (fun z => k2 ((hk_i (by decide) (by decide)).mp z)) (br_f (by decide) (br_f (by decide) (br_f (by decide) (h)))))))⟩)))))))))))
  · exact xi_s0 h2 (br_t rfl (br_f (by decide) (hy _ (yi_s0 h2 (br_t rfl ⟨rfl, I'⟩)))))
theorem sx_6 (J : hp_J n tm pm c ne nr ns ph kn K L R M A Z E r0 r1 rc F Ym Yc Yk) (p1 : ph = 1) (hs : ns < pm) (v2 v3 v4 : Int32) : wpX_step (fun r u' => wpY_step (fun r' v' => r' = r ∧ i_Rel q u' v') (nI n, nI tm, nI pm, nI c, nI ne, nI nr, nI ns, ph, kn, K, L, R, Ym, E, r0, r1, rc, F, Yc, Yk) (nI 6) v2 v3 v4) (nI n, nI tm, nI pm, ph, nI c, nI ne, nI nr, nI ns, kn, K, L, R, M, A, Z, E, r0, r1, rc, F) (nI 6) v2 v3 v4 := by
  obtain ⟨b1, b2, b3, b4, b5, b6, b7, b8⟩ := hj_b J
  have q0 : ¬ ph = 0 := by rw [p1]; decide
  have hlt : nI ns < nI pm := nI_lt hs (by omega)
  have W := J.1.1
  have C := J.2.1.1
  have I' := hj_mk (k := q) J
  refine br_f q0 (br_t hlt (br_f (by decide) (br_t (by decide) ?_)))
  refine br_f (by decide) (br_f (by decide) (br_f (by decide) (br_f (by decide) (br_f (by decide) (br_f (by decide) (br_f (by decide) (br_f (by decide) (br_t rfl (?_)))))))))
  have hy : ∀ post : Int32 → SY → Prop, wY_step_72 post (nI 6) v2 v3 v4 (nI n) (nI tm) (nI pm) (nI c) (nI ne) (nI nr) (nI ns) ph kn K L R Ym E r0 r1 rc F Yc Yk → wpY_step post (nI n, nI tm, nI pm, nI c, nI ne, nI nr, nI ns, ph, kn, K, L, R, Ym, E, r0, r1, rc, F, Yc, Yk) (nI 6) v2 v3 v4 := fun post h => br_f q0 (br_t hlt (br_f (by decide) (br_t (by decide) (br_f (by decide) (br_f (by decide) (br_f (by decide) (br_t rfl (h))))))))
  rcases hp_ix v2 (c := ns) (by omega) with ⟨i, hi, rfl⟩ | h2
  · have hii : vp_in (nI i) 32 := vp_in_nI (by omega) (by decide)
    have ci : (nI i).toNatClampNeg = i := nI_clamp (by omega)
    have h196 : ∀ post : Int32 → SY → Prop, wY_step_196 post (nI 6) (nI i) v3 v4 (nI n) (nI tm) (nI pm) (nI c) (nI ne) (nI nr) (nI ns) ph kn K L R Ym E r0 r1 rc F Yc Yk → wpY_step post (nI n, nI tm, nI pm, nI c, nI ne, nI nr, nI ns, ph, kn, K, L, R, Ym, E, r0, r1, rc, F, Yc, Yk) (nI 6) (nI i) v3 v4 := fun post h => hy _ (yi_s1 hi (by omega) (br_f (by decide) (br_f (by decide) (br_f (by decide) (br_f (by decide) (br_f (by decide) (br_f (by decide) (br_f (by decide) h))))))))
    refine xi_s1 hi (by omega) (br_f (by decide) (br_t (by decide) ?_))
    obtain ⟨f, hf, ef, af⟩ := J.2.2.1.2.2 i hi
    have hv := hc_g C hf af
    refine br_f (by decide) (br_f (by decide) (br_f (by decide) (br_f (by decide) (br_f (by decide) (br_f (by decide) (br_f (by decide) (br_f (by decide) (br_t rfl (⟨hii, ?_⟩)))))))))
    rw [ci, ef]
    by_cases k2 : K (f / 16) = 2
    · obtain ⟨l, x, _, _, _, x1, x2, x3, _⟩ := hc_r W C hv (hn_2 k2) (by rw [k2]; decide)
      refine xi_knd hf (fun _ => br_f (by decide) ⟨hii, xi_rgt W C hf hv (hn_2 k2) (by rw [k2]; decide) (xs_fin (q := q) (P := fun r u' => wpY_step (fun r' v' => r' = r ∧ i_Rel q u' v') (nI n, nI tm, nI pm, nI c, nI ne, nI nr, nI ns, ph, kn, K, L, R, Ym, E, r0, r1, rc, F, Yc, Yk) (nI 6) (nI i) v3 v4) J p1 hs (Or.inr ⟨x, x1, x2, x3⟩) (fun ra u' h => h196 _ (yj_ref J (br_f (by decide) (br_f (by decide) (br_f (by decide) (br_f (by decide) (br_f (by decide) (br_f (by decide) (⟨hii, nm_r (e' := nI f) (by rw [ci, ef]) (yi_kk hf (br_f (by decide) (br_t rfl (br_t ((hk_i (by decide) (by decide)).mpr k2) (yi_rgt W C hf hv (hn_2 k2) (by rw [k2]; decide) (br_f (by decide) (br_f (by decide) (h))))))))⟩))))))))))⟩) (fun z => absurd k2 z)
    · refine xi_knd hf (fun z => absurd z k2) (fun _ => br_t rfl (xs_fin (q := q) (P := fun r u' => wpY_step (fun r' v' => r' = r ∧ i_Rel q u' v') (nI n, nI tm, nI pm, nI c, nI ne, nI nr, nI ns, ph, kn, K, L, R, Ym, E, r0, r1, rc, F, Yc, Yk) (nI 6) (nI i) v3 v4) J p1 hs (Or.inl rfl) (fun ra u' h => h196 _ (yj_ref J (br_f (by decide) (br_f (by decide) (br_f (by decide) (br_f (by decide) (br_f (by decide) (br_f (by decide) (⟨hii, nm_r (e' := nI f) (by rw [ci, ef]) (yi_kk hf (br_f (by decide) (br_t rfl (br_f (fun z => k2 ((hk_i (by decide) (by decide)).mp z)) (br_f (by decide) (br_f (by decide) (h)))))))⟩)))))))))))
  · exact xi_s0 h2 (br_t rfl (br_f (by decide) (hy _ (yi_s0 h2 (br_t rfl ⟨rfl, I'⟩)))))
theorem sx_7 (J : hp_J n tm pm c ne nr ns ph kn K L R M A Z E r0 r1 rc F Ym Yc Yk) (p1 : ph = 1) (hs : ns < pm) (v2 v3 v4 : Int32) : wpX_step (fun r u' => wpY_step (fun r' v' => r' = r ∧ i_Rel q u' v') (nI n, nI tm, nI pm, nI c, nI ne, nI nr, nI ns, ph, kn, K, L, R, Ym, E, r0, r1, rc, F, Yc, Yk) (nI 7) v2 v3 v4) (nI n, nI tm, nI pm, ph, nI c, nI ne, nI nr, nI ns, kn, K, L, R, M, A, Z, E, r0, r1, rc, F) (nI 7) v2 v3 v4 := by
  obtain ⟨b1, b2, b3, b4, b5, b6, b7, b8⟩ := hj_b J
  have q0 : ¬ ph = 0 := by rw [p1]; decide
  have hlt : nI ns < nI pm := nI_lt hs (by omega)
  have W := J.1.1
  have C := J.2.1.1
  have I' := hj_mk (k := q) J
  refine br_f q0 (br_t hlt (br_f (by decide) (br_t (by decide) ?_)))
  refine br_f (by decide) (br_f (by decide) (br_f (by decide) (br_f (by decide) (br_f (by decide) (br_f (by decide) (br_f (by decide) (br_f (by decide) (br_f (by decide) (br_t rfl (?_))))))))))
  have hy : ∀ post : Int32 → SY → Prop, wY_step_110 post (nI 7) v2 v3 v4 (nI n) (nI tm) (nI pm) (nI c) (nI ne) (nI nr) (nI ns) ph kn K L R Ym E r0 r1 rc F Yc Yk → wpY_step post (nI n, nI tm, nI pm, nI c, nI ne, nI nr, nI ns, ph, kn, K, L, R, Ym, E, r0, r1, rc, F, Yc, Yk) (nI 7) v2 v3 v4 := fun post h => br_f q0 (br_t hlt (br_f (by decide) (br_t (by decide) (br_f (by decide) (br_f (by decide) (br_f (by decide) (br_f (by decide) (br_f (by decide) (br_f (by decide) (br_f (by decide) (br_t rfl (h))))))))))))
  rcases hp_ix v2 (c := ns) (by omega) with ⟨i, hi, rfl⟩ | h2
  · rcases hp_ix v3 (c := ns) (by omega) with ⟨j, hj, rfl⟩ | h3
    · have hii : vp_in (nI i) 32 := vp_in_nI (by omega) (by decide)
      have hij : vp_in (nI j) 32 := vp_in_nI (by omega) (by decide)
      have ci : (nI i).toNatClampNeg = i := nI_clamp (by omega)
      have cj : (nI j).toNatClampNeg = j := nI_clamp (by omega)
      have h196 : ∀ post : Int32 → SY → Prop, wY_step_196 post (nI 7) (nI i) (nI j) v4 (nI n) (nI tm) (nI pm) (nI c) (nI ne) (nI nr) (nI ns) ph kn K L R Ym E r0 r1 rc F Yc Yk → wpY_step post (nI n, nI tm, nI pm, nI c, nI ne, nI nr, nI ns, ph, kn, K, L, R, Ym, E, r0, r1, rc, F, Yc, Yk) (nI 7) (nI i) (nI j) v4 := fun post h => hy _ (yi_s1 hi (by omega) (br_f (by decide) (yi_s1 hj (by omega) (br_f (by decide) (br_f (by decide) h)))))
      refine xi_s1 hi (by omega) (br_f (by decide) (xi_s1 hj (by omega) (br_f (by decide) (br_t (by decide) ?_))))
      obtain ⟨f, hf, ef, af⟩ := J.2.2.1.2.2 i hi
      have hv := hc_g C hf af
      refine br_f (by decide) (br_f (by decide) (br_f (by decide) (br_f (by decide) (br_f (by decide) (br_f (by decide) (br_f (by decide) (br_f (by decide) (br_f (by decide) (br_t rfl (⟨hii, ?_⟩))))))))))
      rw [ci, ef]
      by_cases k3 : K (f / 16) = 3
      · have n5 : ¬ K (f / 16) = 5 := by rw [k3]; decide
        obtain ⟨l, x, _, _, _, x1, x2, x3, _⟩ := hc_l W C hv (hn_3 k3)
        refine xi_knd hf (fun _ => br_f (by decide) ⟨hii, hij, ?_⟩) (fun z => absurd k3 z)
        unfold wpX_opened
        refine xi_key3 W C hf hv k3 ?_
        rw [cj]
        by_cases e : A (hp_l R f) = F j
        · refine br_t e (xi_lft W C hf hv (hn_3 k3) (xs_fin (q := q) (P := fun r u' => wpY_step (fun r' v' => r' = r ∧ i_Rel q u' v') (nI n, nI tm, nI pm, nI c, nI ne, nI nr, nI ns, ph, kn, K, L, R, Ym, E, r0, r1, rc, F, Yc, Yk) (nI 7) (nI i) (nI j) v4) J p1 hs (Or.inr ⟨x, x1, x2, x3⟩) (fun ra u' h => h196 _ (yj_ref J (br_f (by decide) (br_f (by decide) (br_f (by decide) (br_f (by decide) (br_f (by decide) (br_f (by decide) (⟨hii, nm_r (e' := nI f) (by rw [ci, ef]) (yi_kk hf (br_f (by decide) (br_f (by decide) (br_t rfl (br_t ((hk_i (by decide) (by decide)).mpr k3) (yi_rgt W C hf hv (hn_3 k3) n5 ⟨hij, br_t (by rw [cj]; exact e) (yi_lft W C hf hv (hn_3 k3) (br_f (by decide) h))⟩))))))⟩)))))))))))
        · refine br_f e (xs_fin (q := q) (P := fun r u' => wpY_step (fun r' v' => r' = r ∧ i_Rel q u' v') (nI n, nI tm, nI pm, nI c, nI ne, nI nr, nI ns, ph, kn, K, L, R, Ym, E, r0, r1, rc, F, Yc, Yk) (nI 7) (nI i) (nI j) v4) J p1 hs (Or.inl rfl) (fun ra u' h => h196 _ (yj_ref J (br_f (by decide) (br_f (by decide) (br_f (by decide) (br_f (by decide) (br_f (by decide) (br_f (by decide) (⟨hii, nm_r (e' := nI f) (by rw [ci, ef]) (yi_kk hf (br_f (by decide) (br_f (by decide) (br_t rfl (br_t ((hk_i (by decide) (by decide)).mpr k3) (yi_rgt W C hf hv (hn_3 k3) n5 ⟨hij, br_f (by rw [cj]; exact e) (br_f (by decide) h)⟩))))))⟩))))))))))
      · refine xi_knd hf (fun z => absurd z k3) (fun _ => br_t rfl (xs_fin (q := q) (P := fun r u' => wpY_step (fun r' v' => r' = r ∧ i_Rel q u' v') (nI n, nI tm, nI pm, nI c, nI ne, nI nr, nI ns, ph, kn, K, L, R, Ym, E, r0, r1, rc, F, Yc, Yk) (nI 7) (nI i) (nI j) v4) J p1 hs (Or.inl rfl) (fun ra u' h => h196 _ (yj_ref J (br_f (by decide) (br_f (by decide) (br_f (by decide) (br_f (by decide) (br_f (by decide) (br_f (by decide) (⟨hii, nm_r (e' := nI f) (by rw [ci, ef]) (yi_kk hf (br_f (by decide) (br_f (by decide) (br_t rfl (br_f (fun z => k3 ((hk_i (by decide) (by decide)).mp z)) (br_f (by decide) h))))))⟩)))))))))))
    · exact xi_s1 hi (by omega) (br_f (by decide) (xi_s0 h3 (br_t rfl (br_f (by decide) (hy _ (yi_s1 hi (by omega) (br_f (by decide) (yi_s0 h3 (br_t rfl ⟨rfl, I'⟩)))))))))
  · exact xi_s0 h2 (br_t rfl (br_f (by decide) (hy _ (yi_s0 h2 (br_t rfl ⟨rfl, I'⟩)))))
theorem sx_8 (J : hp_J n tm pm c ne nr ns ph kn K L R M A Z E r0 r1 rc F Ym Yc Yk) (p1 : ph = 1) (hs : ns < pm) (v2 v3 v4 : Int32) : wpX_step (fun r u' => wpY_step (fun r' v' => r' = r ∧ i_Rel q u' v') (nI n, nI tm, nI pm, nI c, nI ne, nI nr, nI ns, ph, kn, K, L, R, Ym, E, r0, r1, rc, F, Yc, Yk) (nI 8) v2 v3 v4) (nI n, nI tm, nI pm, ph, nI c, nI ne, nI nr, nI ns, kn, K, L, R, M, A, Z, E, r0, r1, rc, F) (nI 8) v2 v3 v4 := by
  obtain ⟨b1, b2, b3, b4, b5, b6, b7, b8⟩ := hj_b J
  have q0 : ¬ ph = 0 := by rw [p1]; decide
  have hlt : nI ns < nI pm := nI_lt hs (by omega)
  have W := J.1.1
  have C := J.2.1.1
  have I' := hj_mk (k := q) J
  refine br_f q0 (br_t hlt (br_f (by decide) (br_t (by decide) ?_)))
  refine br_f (by decide) (br_f (by decide) (br_f (by decide) (br_f (by decide) (br_f (by decide) (br_f (by decide) (br_f (by decide) (br_f (by decide) (br_f (by decide) (br_f (by decide) (br_t rfl (?_)))))))))))
  have hy : ∀ post : Int32 → SY → Prop, wY_step_110 post (nI 8) v2 v3 v4 (nI n) (nI tm) (nI pm) (nI c) (nI ne) (nI nr) (nI ns) ph kn K L R Ym E r0 r1 rc F Yc Yk → wpY_step post (nI n, nI tm, nI pm, nI c, nI ne, nI nr, nI ns, ph, kn, K, L, R, Ym, E, r0, r1, rc, F, Yc, Yk) (nI 8) v2 v3 v4 := fun post h => br_f q0 (br_t hlt (br_f (by decide) (br_t (by decide) (br_f (by decide) (br_f (by decide) (br_f (by decide) (br_f (by decide) (br_f (by decide) (br_f (by decide) (br_f (by decide) (br_f (by decide) (br_t rfl (h)))))))))))))
  rcases hp_ix v2 (c := ns) (by omega) with ⟨i, hi, rfl⟩ | h2
  · rcases hp_ix v3 (c := ns) (by omega) with ⟨j, hj, rfl⟩ | h3
    · have hii : vp_in (nI i) 32 := vp_in_nI (by omega) (by decide)
      have hij : vp_in (nI j) 32 := vp_in_nI (by omega) (by decide)
      have ci : (nI i).toNatClampNeg = i := nI_clamp (by omega)
      have cj : (nI j).toNatClampNeg = j := nI_clamp (by omega)
      have h196 : ∀ post : Int32 → SY → Prop, wY_step_196 post (nI 8) (nI i) (nI j) v4 (nI n) (nI tm) (nI pm) (nI c) (nI ne) (nI nr) (nI ns) ph kn K L R Ym E r0 r1 rc F Yc Yk → wpY_step post (nI n, nI tm, nI pm, nI c, nI ne, nI nr, nI ns, ph, kn, K, L, R, Ym, E, r0, r1, rc, F, Yc, Yk) (nI 8) (nI i) (nI j) v4 := fun post h => hy _ (yi_s1 hi (by omega) (br_f (by decide) (yi_s1 hj (by omega) (br_f (by decide) (br_f (by decide) h)))))
      refine xi_s1 hi (by omega) (br_f (by decide) (xi_s1 hj (by omega) (br_f (by decide) (br_t (by decide) ?_))))
      obtain ⟨f, hf, ef, af⟩ := J.2.2.1.2.2 i hi
      have hv := hc_g C hf af
      refine br_f (by decide) (br_f (by decide) (br_f (by decide) (br_f (by decide) (br_f (by decide) (br_f (by decide) (br_f (by decide) (br_f (by decide) (br_f (by decide) (br_f (by decide) (br_t rfl (⟨hii, ?_⟩)))))))))))
      rw [ci, ef]
      by_cases k4 : K (f / 16) = 4
      · have n5 : ¬ K (f / 16) = 5 := by rw [k4]; decide
        have kk4 := (hk_i (K := K) (f := f) (m := 4) (by decide) (by decide)).mpr k4
        obtain ⟨l, x, _, _, _, x1, x2, x3, _⟩ := hc_l W C hv (hn_4 k4)
        obtain ⟨l', w, _, _, _, w1, w2, w3, _⟩ := hc_r W C hv (hn_4 k4) n5
        refine xi_knd hf (fun _ => br_f (by decide) ⟨hii, hij, ?_⟩) (fun z => absurd k4 z)
        obtain ⟨g, hg, eg, ag⟩ := J.2.2.1.2.2 j hj
        unfold wpX_opened
        rw [cj]
        refine xi_key4 W C hf hv k4 w1 w2 w3 (fun k5 => ?_) (fun k5 => ?_)
        · have kk5 := (hk_i (K := K) (f := w) (m := 5) (by decide) (by decide)).mpr k5
          have hw := hc_g C w1 w3
          by_cases e : A (hp_l L w) = F j
          · refine br_t e (xi_lft W C hf hv (hn_4 k4) (xs_fin (q := q) (P := fun r u' => wpY_step (fun r' v' => r' = r ∧ i_Rel q u' v') (nI n, nI tm, nI pm, nI c, nI ne, nI nr, nI ns, ph, kn, K, L, R, Ym, E, r0, r1, rc, F, Yc, Yk) (nI 8) (nI i) (nI j) v4) J p1 hs (Or.inr ⟨x, x1, x2, x3⟩) (fun ra u' h => ?_)))
            refine h196 _ (yj_ref J (br_f (by decide) (br_f (by decide) (br_f (by decide) (br_f (by decide) (br_f (by decide) (br_f (by decide) (⟨hii, nm_r (e' := nI f) (by rw [ci, ef]) (yi_kk hf (br_f (by decide) (br_f (by decide) (br_f (by decide) (br_t rfl (br_t kk4 (yi_rgt W C hf hv (hn_4 k4) n5 ?_)))))))⟩))))))))
            rw [w2]
            exact br_f (nI_pos (by omega)) (yi_kk w1 (br_t kk5 (yi_lft W C w1 hw (hn_5 k5) ⟨hij, br_t (by rw [cj]; exact e) (yi_lft W C hf hv (hn_4 k4) h)⟩)))
          · refine br_f e (xs_fin (q := q) (P := fun r u' => wpY_step (fun r' v' => r' = r ∧ i_Rel q u' v') (nI n, nI tm, nI pm, nI c, nI ne, nI nr, nI ns, ph, kn, K, L, R, Ym, E, r0, r1, rc, F, Yc, Yk) (nI 8) (nI i) (nI j) v4) J p1 hs (Or.inl rfl) (fun ra u' h => ?_))
            refine h196 _ (yj_ref J (br_f (by decide) (br_f (by decide) (br_f (by decide) (br_f (by decide) (br_f (by decide) (br_f (by decide) (⟨hii, nm_r (e' := nI f) (by rw [ci, ef]) (yi_kk hf (br_f (by decide) (br_f (by decide) (br_f (by decide) (br_t rfl (br_t kk4 (yi_rgt W C hf hv (hn_4 k4) n5 ?_)))))))⟩))))))))
            rw [w2]
            exact br_f (nI_pos (by omega)) (yi_kk w1 (br_t kk5 (yi_lft W C w1 hw (hn_5 k5) ⟨hij, br_f (by rw [cj]; exact e) h⟩)))
        · refine br_f (by rw [eg]; exact fun z => ha_ne1 (by omega) z.symm) (xs_fin (q := q) (P := fun r u' => wpY_step (fun r' v' => r' = r ∧ i_Rel q u' v') (nI n, nI tm, nI pm, nI c, nI ne, nI nr, nI ns, ph, kn, K, L, R, Ym, E, r0, r1, rc, F, Yc, Yk) (nI 8) (nI i) (nI j) v4) J p1 hs (Or.inl rfl) (fun ra u' h => ?_))
          refine h196 _ (yj_ref J (br_f (by decide) (br_f (by decide) (br_f (by decide) (br_f (by decide) (br_f (by decide) (br_f (by decide) (⟨hii, nm_r (e' := nI f) (by rw [ci, ef]) (yi_kk hf (br_f (by decide) (br_f (by decide) (br_f (by decide) (br_t rfl (br_t kk4 (yi_rgt W C hf hv (hn_4 k4) n5 ?_)))))))⟩))))))))
          rw [w2]
          exact br_f (nI_pos (by omega)) (yi_kk w1 (br_f (fun z => k5 ((hk_i (by decide) (by decide)).mp z)) h))
      · refine xi_knd hf (fun z => absurd z k4) (fun _ => br_t rfl (xs_fin (q := q) (P := fun r u' => wpY_step (fun r' v' => r' = r ∧ i_Rel q u' v') (nI n, nI tm, nI pm, nI c, nI ne, nI nr, nI ns, ph, kn, K, L, R, Ym, E, r0, r1, rc, F, Yc, Yk) (nI 8) (nI i) (nI j) v4) J p1 hs (Or.inl rfl) (fun ra u' h => h196 _ (yj_ref J (br_f (by decide) (br_f (by decide) (br_f (by decide) (br_f (by decide) (br_f (by decide) (br_f (by decide) (⟨hii, nm_r (e' := nI f) (by rw [ci, ef]) (yi_kk hf (br_f (by decide) (br_f (by decide) (br_f (by decide) (br_t rfl (br_f (fun z => k4 ((hk_i (by decide) (by decide)).mp z)) h))))))⟩)))))))))))
    · exact xi_s1 hi (by omega) (br_f (by decide) (xi_s0 h3 (br_t rfl (br_f (by decide) (hy _ (yi_s1 hi (by omega) (br_f (by decide) (yi_s0 h3 (br_t rfl ⟨rfl, I'⟩)))))))))
  · exact xi_s0 h2 (br_t rfl (br_f (by decide) (hy _ (yi_s0 h2 (br_t rfl ⟨rfl, I'⟩)))))
theorem sx_0 (J : hp_J n tm pm c ne nr ns ph kn K L R M A Z E r0 r1 rc F Ym Yc Yk) (p1 : ph = 1) (hs : ns < pm) (v2 v3 v4 : Int32) : wpX_step (fun r u' => wpY_step (fun r' v' => r' = r ∧ i_Rel q u' v') (nI n, nI tm, nI pm, nI c, nI ne, nI nr, nI ns, ph, kn, K, L, R, Ym, E, r0, r1, rc, F, Yc, Yk) (nI 0) v2 v3 v4) (nI n, nI tm, nI pm, ph, nI c, nI ne, nI nr, nI ns, kn, K, L, R, M, A, Z, E, r0, r1, rc, F) (nI 0) v2 v3 v4 := by
  obtain ⟨b1, b2, b3, b4, b5, b6, b7, b8⟩ := hj_b J
  have q0 : ¬ ph = 0 := by rw [p1]; decide
  have hlt : nI ns < nI pm := nI_lt hs (by omega)
  have W := J.1.1
  have C := J.2.1.1
  have I' := hj_mk (k := q) J
  refine br_f q0 (br_t hlt (br_f (by decide) (br_t (by decide) ?_)))
  refine br_f (by decide) (br_f (by decide) (br_t rfl (?_)))
  have hy : ∀ post : Int32 → SY → Prop, ((v2 < 0 → post (-4) (nI n, nI tm, nI pm, nI c, nI ne, nI nr, nI ns, ph, kn, K, L, R, Ym, E, r0, r1, rc, F, Yc, Yk)) ∧ (¬ v2 < 0 → ((v2 < nI ne → wY_step_56 post (nI 0) v2 v3 v4 (nI n) (nI tm) (nI pm) (nI c) (nI ne) (nI nr) (nI ns) ph kn K L R Ym E r0 r1 rc F Yc Yk) ∧ (¬ v2 < nI ne → post (-4) (nI n, nI tm, nI pm, nI c, nI ne, nI nr, nI ns, ph, kn, K, L, R, Ym, E, r0, r1, rc, F, Yc, Yk))))) → wpY_step post (nI n, nI tm, nI pm, nI c, nI ne, nI nr, nI ns, ph, kn, K, L, R, Ym, E, r0, r1, rc, F, Yc, Yk) (nI 0) v2 v3 v4 := fun post h => br_f q0 (br_t hlt (br_f (by decide) (br_t (by decide) (br_t rfl h))))
  rcases hp_ix v2 (c := ne) (by omega) with ⟨i, hi, rfl⟩ | h2
  · have hii : vp_in (nI i) 8 := vp_in_nI (by omega) (by decide)
    have ci : (nI i).toNatClampNeg = i := nI_clamp (by omega)
    obtain ⟨h, hh, eh⟩ := J.2.2.1.1 i hi
    have w := W.2.2.1
    have e2 : (h * 16) % 16 = 0 := by omega
    obtain ⟨x, x1, x2, x3, _⟩ := hc_p W C (t := h * 16) ⟨by omega, by rw [e2]; exact ⟨by have := W.1; omega, by have := W.1; omega⟩⟩
    refine hb_i hi (by omega) (br_t (by decide) (br_f (by decide) (br_f (by decide) (br_t rfl ⟨hii, ?_⟩))))
    rw [ci, eh, ha_16, nI_clamp (n := h * 16) (by omega)]
    refine ⟨vp_in_nI (by omega) (by decide), xs_fin (q := q) (P := fun r u' => wpY_step (fun r' v' => r' = r ∧ i_Rel q u' v') (nI n, nI tm, nI pm, nI c, nI ne, nI nr, nI ns, ph, kn, K, L, R, Ym, E, r0, r1, rc, F, Yc, Yk) (nI 0) (nI i) v3 v4) J p1 hs (Or.inr ⟨x, x1, x2, x3⟩) (fun ra u' hh => ?_)⟩
    refine hy _ (hb_i2 hi (by omega) (br_f (by decide) (br_f (by decide) (br_f (by decide) (br_f (by decide) (br_f (by decide) (br_f (by decide) (br_f (by decide) (br_f (by decide) (br_f (by decide) (yj_ref J (br_t rfl ⟨hii, ?_⟩))))))))))))
    rw [ci, eh, ha_16, ha_a255 (by omega), nI_clamp (n := h * 16) (by omega)]
    exact ⟨vp_in_nI (by omega) (by decide), nm_e hh⟩
  · exact hb_o h2 (br_f (by decide) (hy _ (hb_o2 h2 ⟨rfl, I'⟩)))
theorem sx_9 (J : hp_J n tm pm c ne nr ns ph kn K L R M A Z E r0 r1 rc F Ym Yc Yk) (p1 : ph = 1) (hs : ns < pm) (v2 v3 v4 : Int32) : wpX_step (fun r u' => wpY_step (fun r' v' => r' = r ∧ i_Rel q u' v') (nI n, nI tm, nI pm, nI c, nI ne, nI nr, nI ns, ph, kn, K, L, R, Ym, E, r0, r1, rc, F, Yc, Yk) (nI 9) v2 v3 v4) (nI n, nI tm, nI pm, ph, nI c, nI ne, nI nr, nI ns, kn, K, L, R, M, A, Z, E, r0, r1, rc, F) (nI 9) v2 v3 v4 := by
  obtain ⟨b1, b2, b3, b4, b5, b6, b7, b8⟩ := hj_b J
  have q0 : ¬ ph = 0 := by rw [p1]; decide
  have hlt : nI ns < nI pm := nI_lt hs (by omega)
  have W := J.1.1
  have C := J.2.1.1
  have I' := hj_mk (k := q) J
  refine br_f q0 (br_t hlt (br_f (by decide) (br_t (by decide) ?_)))
  refine br_f (by decide) (br_f (by decide) (br_f (by decide) (br_f (by decide) (br_f (by decide) (br_f (by decide) (br_f (by decide) (br_f (by decide) (br_f (by decide) (br_f (by decide) (br_f (by decide) (br_t rfl (?_))))))))))))
  have hy : ∀ post : Int32 → SY → Prop, ((v2 < 0 → (post (-4) (nI n, nI tm, nI pm, nI c, nI ne, nI nr, nI ns, ph, kn, K, L, R, Ym, E, r0, r1, rc, F, Yc, Yk))) ∧ (¬ v2 < 0 → (((v2 < nI nr → (vp_in v2 8 ∧ ((((r0 v2.toNatClampNeg) = (-1) → (wY_step_174 post (nI 9) v2 v3 v4 (nI n) (nI tm) (nI pm) (nI c) (nI ne) (nI nr) (nI ns) ph kn K L R Ym E r0 r1 rc F Yc Yk)) ∧ (¬ (r0 v2.toNatClampNeg) = (-1) → (wpY_validStep (fun r_408 => (((r_408 = 0 → (post (-9) (nI n, nI tm, nI pm, nI c, nI ne, nI nr, nI ns, ph, kn, K, L, R, Ym, E, r0, r1, rc, F, Yc, Yk))) ∧ (¬ r_408 = 0 → (wY_step_174 post (nI 9) v2 v3 v4 (nI n) (nI tm) (nI pm) (nI c) (nI ne) (nI nr) (nI ns) ph kn K L R Ym E r0 r1 rc F Yc Yk))))) (nI n, nI tm, nI pm, nI c, nI ne, nI nr, nI ns, ph, kn, K, L, R, Ym, E, r0, r1, rc, F, Yc, Yk) v3)))))) ∧ (¬ v2 < nI nr → (post (-4) (nI n, nI tm, nI pm, nI c, nI ne, nI nr, nI ns, ph, kn, K, L, R, Ym, E, r0, r1, rc, F, Yc, Yk))))))) → wpY_step post (nI n, nI tm, nI pm, nI c, nI ne, nI nr, nI ns, ph, kn, K, L, R, Ym, E, r0, r1, rc, F, Yc, Yk) (nI 9) v2 v3 v4 := fun post h => br_f q0 (br_t hlt (br_f (by decide) (br_t (by decide) (br_f (by decide) (br_f (by decide) (br_f (by decide) (br_f (by decide) (br_f (by decide) (br_f (by decide) (br_f (by decide) (br_f (by decide) (br_f (by decide) (br_t rfl h)))))))))))))
  rcases hp_ix v2 (c := nr) (by omega) with ⟨i, hi, rfl⟩ | h2
  · have hii : vp_in (nI i) 8 := vp_in_nI (by omega) (by decide)
    have ci : (nI i).toNatClampNeg = i := nI_clamp (by omega)
    have h196 : ∀ post : Int32 → SY → Prop, (¬ r1 i = -1 → ∃ j, j < ns ∧ v4 = nI j) → wY_step_196 post (nI 9) (nI i) v3 v4 (nI n) (nI tm) (nI pm) (nI c) (nI ne) (nI nr) (nI ns) ph kn K L R Ym E r0 r1 rc F Yc Yk → wY_step_174 post (nI 9) (nI i) v3 v4 (nI n) (nI tm) (nI pm) (nI c) (nI ne) (nI nr) (nI ns) ph kn K L R Ym E r0 r1 rc F Yc Yk := fun post g h => by
      refine ⟨hii, ?_⟩
      rw [ci]
      by_cases e : r1 i = -1
      · exact br_t e h
      · obtain ⟨j, hj, rfl⟩ := g e
        exact br_f e (yi_s1 hj (by omega) (br_f (by decide) h))
    have h174 : ∀ post : Int32 → SY → Prop, (¬ r0 i = -1 → ∃ j, j < ns ∧ v3 = nI j) → wY_step_174 post (nI 9) (nI i) v3 v4 (nI n) (nI tm) (nI pm) (nI c) (nI ne) (nI nr) (nI ns) ph kn K L R Ym E r0 r1 rc F Yc Yk → wpY_step post (nI n, nI tm, nI pm, nI c, nI ne, nI nr, nI ns, ph, kn, K, L, R, Ym, E, r0, r1, rc, F, Yc, Yk) (nI 9) (nI i) v3 v4 := fun post g h => by
      refine hy _ (hb_i2 hi (by omega) ⟨hii, ?_⟩)
      rw [ci]
      by_cases e : r0 i = -1
      · exact br_t e h
      · obtain ⟨j, hj, rfl⟩ := g e
        exact br_f e (yi_s1 hj (by omega) (br_f (by decide) h))
    refine xi_rr hi b7 (by omega) (fun g3 g4 => br_t (by decide) ?_) (fun e h3 => br_f (by decide) ?_) (fun g3 e h4 => br_f (by decide) ?_)
    · obtain ⟨r, hr⟩ := hz_ex n A (r0 i) (r1 i) (rc i) (F v3.toNatClampNeg) (F v4.toNatClampNeg)
      have hy3 : ¬ r0 i = -1 → vp_in v3 32 := fun e => by
        obtain ⟨j, hj, rfl⟩ := g3 e
        exact vp_in_nI (by omega) (by decide)
      have hy4 : ¬ r1 i = -1 → vp_in v4 32 := fun e => by
        obtain ⟨j, hj, rfl⟩ := g4 e
        exact vp_in_nI (by omega) (by decide)
      have ho := ho_z W C (J.2.2.1.2.1 i hi).2.2 hr
      refine br_f (by decide) (br_f (by decide) (br_f (by decide) (br_f (by decide) (br_f (by decide) (br_f (by decide) (br_f (by decide) (br_f (by decide) (br_f (by decide) (br_f (by decide) (br_f (by decide) (br_t rfl (xi_rf W J.2.2.1.2.1 hi b7 hy3 hy4 hr ?_))))))))))))
      refine xs_fin (q := q) (P := fun r u' => wpY_step (fun r' v' => r' = r ∧ i_Rel q u' v') (nI n, nI tm, nI pm, nI c, nI ne, nI nr, nI ns, ph, kn, K, L, R, Ym, E, r0, r1, rc, F, Yc, Yk) (nI 9) (nI i) v3 v4) J p1 hs ho (fun ra u' h => ?_)
      refine h174 _ g3 (h196 _ g4 (yj_ref J (br_f (by decide) (br_t rfl ?_))))
      exact yi_rs W J.2.2.1.2.1 hi b7 hy3 hy4 hr h
    · refine hy _ (hb_i2 hi (by omega) ⟨hii, ?_⟩)
      rw [ci]
      exact br_f e (yi_s0 h3 (br_t rfl ⟨rfl, I'⟩))
    · refine h174 _ g3 ⟨hii, ?_⟩
      rw [ci]
      exact br_f e (yi_s0 h4 (br_t rfl ⟨rfl, I'⟩))
  · exact xi_rr0 h2 (br_f (by decide) (hy _ (hb_o2 h2 ⟨rfl, I'⟩)))
end HT
theorem i_vc_step {k : Nat} {u : SX} {v : SY} (I : i_Rel k u v) (hk : k + 5 ≤ 2563) (v1 : Int32) (v2 : Int32) (v3 : Int32) (v4 : Int32) : wpX_step (fun r u' => wpY_step (fun r' v' => r' = r ∧ i_Rel (k + 5) u' v') v v1 v2 v3 v4) u v1 v2 v3 v4 := by
  have I' := I
  obtain ⟨n, tm, pm, c, ne, nr, ns, ph, kn, K, L, R, M, A, Z, E, r0, r1, rc, F, Ym, Yc, Yk, rfl, rfl, J⟩ := I
  obtain ⟨b1, b2, b3, b4, b5, b6, b7, b8⟩ := hj_b J
  rcases hj_ph J with p | p
  · exact br_t p (br_t p ⟨rfl, I'⟩)
  · have q0 : ¬ ph = 0 := by rw [p]; decide
    by_cases hs : ns < pm
    · have hlt : nI ns < nI pm := nI_lt hs (by omega)
      rcases hp_ix v1 (c := 10) (by omega) with ⟨i, hi, rfl⟩ | h
      · obtain rfl | rfl | rfl | rfl | rfl | rfl | rfl | rfl | rfl | rfl : i = 0 ∨ i = 1 ∨ i = 2 ∨ i = 3 ∨ i = 4 ∨ i = 5 ∨ i = 6 ∨ i = 7 ∨ i = 8 ∨ i = 9 := by omega
        · exact sx_0 J p hs v2 v3 v4
        · exact sx_1 J p hs v2 v3 v4
        · exact sx_2 J p hs v2 v3 v4
        · exact sx_3 J p hs v2 v3 v4
        · exact sx_4 J p hs v2 v3 v4
        · exact sx_5 J p hs v2 v3 v4
        · exact sx_6 J p hs v2 v3 v4
        · exact sx_7 J p hs v2 v3 v4
        · exact sx_8 J p hs v2 v3 v4
        · exact sx_9 J p hs v2 v3 v4
      · by_cases z : v1 < 0
        · exact br_f q0 (br_t hlt (br_t z (br_f q0 (br_t hlt (br_t z ⟨rfl, I'⟩)))))
        · have z9 : ¬ v1 ≤ 9 := Int32.not_le.mpr (Int32.lt_of_lt_of_le (nI_lt (a := 9) (b := 10) (by omega) (by omega)) (h.resolve_left z))
          exact br_f q0 (br_t hlt (br_f z (br_f z9 (br_f q0 (br_t hlt (br_f z (br_f z9 ⟨rfl, I'⟩)))))))
    · have hlt : ¬ nI ns < nI pm := nI_nlt (by omega) (by omega)
      exact br_f q0 (br_f hlt (br_f q0 (br_f hlt ⟨rfl, I'⟩)))
end
section
/-! X's saturate: one round -/
theorem hc_nv {n c m : Nat} {K L R A : Nat → Int32} (W : hp_W n c K L R) (C : hp_C n c K L R A) (hm : m < 256) (e : A m = nI m) : ¬ K (m / 16) = 1 := by
  intro k1
  have hv := hc_g C hm e
  obtain ⟨a1, a2, a3, a4⟩ := hq_a (A := A) W hv.1 hv.2 (Or.inr k1)
  obtain ⟨q, q1, q2, q3, q4, q5⟩ := (C m hm).1 hv.1 hv.2
  have eq : m = q := ha_eq (e.symm.trans q2) (by omega) (by omega)
  subst eq
  by_cases h : 16 * hp_n K L m < m
  · exact q5 _ h a2 a3
  · have k0 : ¬ K (m / 16) = 0 := by rw [k1]; decide
    have e1 : m % 16 = 0 := by omega
    have e2 : hp_n K L m = 0 := by
      unfold hp_n
      rw [if_neg k0, e1]
      split <;> rfl
    have e3 : m / 16 = 0 := by omega
    rw [e3] at k0
    have w := W.1
    rcases W.2.2.2 0 (by omega) with ⟨_, z, _⟩ | ⟨z, _⟩
    · exact k0 z
    · omega
section HL
variable {fN fT fP fp fc fe fr fs fk : Int32} {K L R M A Z E r0 r1 rc F : Nat → Int32} {Rk : Nat → Int32} {n c i g : Nat} {D : Nat → Prop}
theorem hu_v (hG : hp_G A Rk i) (hg : g < 256) : hp_u Rk i D g = -1 ∨ ∃ j, j ≤ i + 1 ∧ hp_u Rk i D g = nI j := by
  by_cases h1 : Rk g = -1
  · by_cases d : D g
    · exact Or.inr ⟨i + 1, Nat.le_refl _, hu_1 h1 d⟩
    · rw [hu_2 d]
      exact Or.inl h1
  · rw [hu_3 h1]
    rcases hG g hg with a | ⟨a, j, b, e⟩
    · exact Or.inl a
    · exact Or.inr ⟨j, by omega, e⟩
theorem xl_learn {post : SX → Prop} (hg : g < 256) (hi : i < 1000) (h : post (fN, fT, fP, fp, fc, fe, fr, fs, nI (hp_k (hp_u Rk i (fun x => D x ∨ x = g)) 256), K, L, R, M, A, hp_u Rk i (fun x => D x ∨ x = g), E, r0, r1, rc, F)) : wpX_learn post (fN, fT, fP, fp, fc, fe, fr, fs, nI (hp_k (hp_u Rk i D) 256), K, L, R, M, A, hp_u Rk i D, E, r0, r1, rc, F) (nI g) (nI i + 1) := by
  have hin : vp_in (nI g) 256 := vp_in_nI hg (by decide)
  have hcl : (nI g).toNatClampNeg = g := nI_clamp (by omega)
  refine ⟨hin, ?_⟩
  rw [hcl]
  by_cases e : hp_u Rk i D g = -1
  · have e1 := hu_n (D := D) e hi
    have e2 : hp_k (hp_u Rk i (fun x => D x ∨ x = g)) 256 = hp_k (hp_u Rk i D) 256 + 1 := by
      rw [e1]
      exact hk_u hg e (ha_ne1 (by omega))
    refine br_t e ⟨hin, nm_r (e' := hp_u Rk i (fun x => D x ∨ x = g)) (by rw [e1, nI_1 i]) (nm_r (e' := nI (hp_k (hp_u Rk i (fun x => D x ∨ x = g)) 256)) (by rw [e2, nI_1]) h)⟩
  · refine br_f e ?_
    rw [hu_k hi e] at h
    exact h
theorem xl_held {post : Int32 → Prop} (hG : hp_G A Rk i) (hg : g < 256) (hi : i < 1000) (h1 : hp_H Rk i g → post 1) (h0 : ¬ hp_H Rk i g → post 0) : wpX_isHeld post (fN, fT, fP, fp, fc, fe, fr, fs, fk, K, L, R, M, A, hp_u Rk i D, E, r0, r1, rc, F) (nI g) (nI i) := by
  have hin : vp_in (nI g) 256 := vp_in_nI hg (by decide)
  have hcl : (nI g).toNatClampNeg = g := nI_clamp (by omega)
  rw [← hu_H (D := D) hi] at h1 h0
  refine ⟨hin, ?_⟩
  rw [hcl]
  rcases hu_v (D := D) hG hg with e | ⟨j, hj, e⟩
  · refine br_t e (h0 ?_)
    rintro ⟨j, _, e'⟩
    rw [e] at e'
    exact ha_ne1 (by omega) e'.symm
  · have ne : ¬ hp_u Rk i D g = -1 := by rw [e]; exact ha_ne1 (by omega)
    refine br_f ne ⟨hin, ?_⟩
    rw [e]
    by_cases h : i < j
    · refine br_t (nI_lt h (by omega)) (h0 ?_)
      rintro ⟨j', hj', e'⟩
      have := ha_eq (e.symm.trans e') (by omega) (by omega)
      omega
    · exact br_f (nI_nlt (by omega) (by omega)) (h1 ⟨j, by omega, e⟩)
theorem xl_comp {post : SX → Prop} (W : hp_W n c K L R) (C : hp_C n c K L R A) (hG : hp_G A Rk i) (hi : i < 1000)
    (h : post (fN, fT, fP, fp, fc, fe, fr, fs, nI (hp_k (hp_u Rk i (hp_X n K L R A r0 r1 rc Rk i 256 0 0 0)) 256), K, L, R, M, A, hp_u Rk i (hp_X n K L R A r0 r1 rc Rk i 256 0 0 0), E, r0, r1, rc, F)) :
    wpX_compose post (fN, fT, fP, fp, fc, fe, fr, fs, nI (hp_k Rk 256), K, L, R, M, A, Rk, E, r0, r1, rc, F) (nI i) := by
  have z0 : hp_u Rk i (hp_X n K L R A r0 r1 rc Rk i 0 0 0 0) = Rk := hu_0 (fun g => hx_0)
  have go : ∃ f, wX_compose_2 post (nI i) f (nI 0) fN fT fP fp fc fe fr fs (nI (hp_k (hp_u Rk i (hp_X n K L R A r0 r1 rc Rk i 0 0 0 0)) 256)) K L R M A (hp_u Rk i (hp_X n K L R A r0 r1 rc Rk i 0 0 0 0)) E r0 r1 rc F := by
    refine pk_loop (fun f m (_ : Unit) => wX_compose_2 post (nI i) f (nI m) fN fT fP fp fc fe fr fs (nI (hp_k (hp_u Rk i (hp_X n K L R A r0 r1 rc Rk i m 0 0 0)) 256)) K L R M A (hp_u Rk i (hp_X n K L R A r0 r1 rc Rk i m 0 0 0)) E r0 r1 rc F) (fun _ _ => True) 256 0 () (by omega) trivial ?_ ?_
    · intro f s _
      exact br_t (nI_le (a := 256) (b := 256) (by omega) (by decide)) h
    · intro f m s hm _ nx
      have nx := nx () trivial
      have n0 : ¬ hp_c K L R A Rk i m → ∀ x, x = nI m + 1 → wX_compose_2 post (nI i) f x fN fT fP fp fc fe fr fs (nI (hp_k (hp_u Rk i (hp_X n K L R A r0 r1 rc Rk i m 0 0 0)) 256)) K L R M A (hp_u Rk i (hp_X n K L R A r0 r1 rc Rk i m 0 0 0)) E r0 r1 rc F := fun z => by
        rw [hu_e (Rk := Rk) (i := i) (fun g => hx_c0 (n := n) (r0 := r0) (r1 := r1) (rc := rc) (mt := 0) (r := 0) (s := 0) (g := g) z)] at nx
        exact nm_r (nI_1 m) nx
      have n1 : hp_c K L R A Rk i m → wX_compose_67 post (wX_compose_2 post (nI i) f) (nI i) (nI m) fN fT fP fp fc fe fr fs (nI (hp_k (hp_u Rk i (hp_X n K L R A r0 r1 rc Rk i m 0 0 0)) 256)) K L R M A (hp_u Rk i (hp_X n K L R A r0 r1 rc Rk i m 0 0 0)) E r0 r1 rc F := fun z => by
        rw [hu_e (Rk := Rk) (i := i) (fun g => hx_c1 (n := n) (r0 := r0) (r1 := r1) (rc := rc) (mt := 0) (r := 0) (s := 0) (g := g) hm z)] at nx
        unfold wX_compose_67
        exact xl_learn hm hi (nm_r (nI_1 m) nx)
      refine br_f (nI_ge (b := 256) hm (by decide)) (xi_gid hm (fun e => br_f (by decide) ⟨by decide, ?_, ?_⟩) (fun e => br_t rfl (n0 (fun z => e z.1))))
      · rw [ha_d16 (by omega)]
        exact vp_in_nI (by omega) (by decide)
      · rw [ha_d16 (a := m) (by omega), nI_clamp (n := m / 16) (by omega)]
        have hv := hc_g C hm e
        by_cases k0 : K (m / 16) = 0
        · exact br_t k0 (n0 (fun z => z.2.1 (Or.inl k0)))
        · have na : ¬ hp_a K m := fun z => z.elim k0 (hc_nv W C hm e)
          obtain ⟨l, a, l1, l2, l3, a1, a2, a3, a4⟩ := hc_l W C hv na
          refine br_f k0 (xi_lft W C hm hv na ?_)
          rw [a2]
          by_cases k5 : K (m / 16) = 5
          · have rr : R (m / 16) = -1 := by
              rcases (hw_na na W hv.1).2.2 with y | ⟨y, _⟩
              · exact y.2
              · rw [k5] at y
                exact absurd y (by decide)
            refine xi_right1 hm rr (xl_held hG a1 hi (fun hh => br_f (by decide) (br_t rfl (n1 ⟨e, na, by rw [a4]; exact hh, Or.inl k5⟩))) (fun hh => br_t rfl (n0 (fun z => hh (by rw [← a4]; exact z.2.2.1)))))
          · obtain ⟨l', b, l1', l2', l3', b1, b2, b3, b4⟩ := hc_r W C hv na k5
            refine xi_rgt W C hm hv na k5 ?_
            rw [b2]
            refine xl_held hG a1 hi (fun hh => br_f (by decide) (br_f (ha_ne1 (by omega)) (xl_held hG b1 hi (fun hb => br_f (by decide) (n1 ⟨e, na, by rw [a4]; exact hh, Or.inr (by rw [b4]; exact hb)⟩)) (fun hb => br_t rfl (n0 (fun z => z.2.2.2.elim k5 (fun y => hb (by rw [← b4]; exact y)))))))) (fun hh => br_t rfl (n0 (fun z => hh (by rw [← a4]; exact z.2.2.1))))
  rw [z0] at go
  exact go
end HL
end
section
/-! X's saturate: takeApart and applyRules -/
section HP
variable {fN fT fP fp fc fe fr fs fk : Int32} {K L R M A Z E r0 r1 rc F : Nat → Int32} {Rk : Nat → Int32} {n c i m : Nat} {D : Nat → Prop}
theorem hu_a {a b : Nat} : hp_u Rk i (fun x => (D x ∨ x = a) ∨ x = b) = hp_u Rk i (fun x => D x ∨ (x = a ∨ x = b)) := hu_e (fun g => or_assoc)
theorem xl_one {post : SX → Prop} (W : hp_W n c K L R) (C : hp_C n c K L R A) (hG : hp_G A Rk i) (hi : i < 1000) (hm : m < 256) (e : A m = nI m) (hH : hp_H Rk i m)
    (h : post (fN, fT, fP, fp, fc, fe, fr, fs, nI (hp_k (hp_u Rk i (hp_X n K L R A r0 r1 rc Rk i 256 (m + 1) 0 0)) 256), K, L, R, M, A, hp_u Rk i (hp_X n K L R A r0 r1 rc Rk i 256 (m + 1) 0 0), E, r0, r1, rc, F)) :
    wpX_takeApartOne post (fN, fT, fP, fp, fc, fe, fr, fs, nI (hp_k (hp_u Rk i (hp_X n K L R A r0 r1 rc Rk i 256 m 0 0)) 256), K, L, R, M, A, hp_u Rk i (hp_X n K L R A r0 r1 rc Rk i 256 m 0 0), E, r0, r1, rc, F) (nI m) (nI i) := by
  have hv := hc_g C hm e
  have st : ∀ P : Nat → Prop, (∀ g, g < 256 → (hp_E K L R A Rk i m g ↔ P g)) → (∀ g, P g → g < 256) → hp_u Rk i (hp_X n K L R A r0 r1 rc Rk i 256 (m + 1) 0 0) = hp_u Rk i (fun x => hp_X n K L R A r0 r1 rc Rk i 256 m 0 0 x ∨ P x) := fun P h1 h2 =>
    hu_e (fun g => hx_t P (fun g hg => ⟨fun z => (h1 g hg).mp z.2.2, fun z => ⟨e, hH, (h1 g hg).mpr z⟩⟩) h2)
  have st0 : (∀ g, g < 256 → ¬ hp_E K L R A Rk i m g) → hp_u Rk i (hp_X n K L R A r0 r1 rc Rk i 256 (m + 1) 0 0) = hp_u Rk i (hp_X n K L R A r0 r1 rc Rk i 256 m 0 0) := fun h1 =>
    hu_e (fun g => hx_t0 (fun g hg z => h1 g hg z.2.2))
  refine ⟨by decide, ?_, ?_⟩
  · rw [ha_d16 (by omega)]
    exact vp_in_nI (by omega) (by decide)
  · rw [ha_d16 (a := m) (by omega), nI_clamp (n := m / 16) (by omega)]
    refine nm_e ?_
    by_cases k2 : K (m / 16) = 2
    · have n5 : ¬ K (m / 16) = 5 := by rw [k2]; decide
      obtain ⟨l, a, l1, l2, l3, a1, a2, a3, a4⟩ := hc_l W C hv (hn_2 k2)
      obtain ⟨l', b, l1', l2', l3', b1, b2, b3, b4⟩ := hc_r W C hv (hn_2 k2) n5
      rw [st (fun x => x = a ∨ x = b) ?_ ?_] at h
      · refine br_t k2 (xi_lft W C hm hv (hn_2 k2) (xi_rgt W C hm hv (hn_2 k2) n5 ?_))
        rw [a2, b2]
        refine xl_learn a1 hi (xl_learn b1 hi (br_f (by rw [k2]; decide) (br_f (by rw [k2]; decide) ?_)))
        rw [hu_a]
        exact h
      · intro g hg
        constructor
        · rintro (⟨_, z | z⟩ | ⟨z, _⟩ | ⟨z, _⟩)
          · exact Or.inl (ha_eq (z.symm.trans a2) (by omega) (by omega))
          · exact Or.inr (ha_eq (z.symm.trans b2) (by omega) (by omega))
          · rw [k2] at z; exact absurd z (by decide)
          · rw [k2] at z; exact absurd z (by decide)
        · rintro (rfl | rfl)
          · exact Or.inl ⟨k2, Or.inl a2⟩
          · exact Or.inl ⟨k2, Or.inr b2⟩
      · rintro g (rfl | rfl)
        · exact a1
        · exact b1
    · refine br_f k2 ?_
      by_cases k3 : K (m / 16) = 3
      · have n5 : ¬ K (m / 16) = 5 := by rw [k3]; decide
        obtain ⟨l, a, l1, l2, l3, a1, a2, a3, a4⟩ := hc_l W C hv (hn_3 k3)
        obtain ⟨l', b, l1', l2', l3', b1, b2, b3, b4⟩ := hc_r W C hv (hn_3 k3) n5
        refine br_t k3 (xi_lft W C hm hv (hn_3 k3) (xi_key3 W C hm hv k3 ?_))
        rw [a2, b2]
        refine br_f (ha_ne1 (by omega)) (xl_held hG b1 hi (fun hb => br_f (by decide) (xl_learn a1 hi ?_)) (fun hb => br_t rfl ?_))
        · rw [st (fun x => x = a) ?_ ?_] at h
          · exact h
          · intro g hg
            constructor
            · rintro (⟨z, _⟩ | ⟨_, z, _⟩ | ⟨z, _⟩)
              · exact absurd z k2
              · exact ha_eq (z.symm.trans a2) (by omega) (by omega)
              · rw [k3] at z; exact absurd z (by decide)
            · rintro rfl
              exact Or.inr (Or.inl ⟨k3, a2, by rw [b4]; exact hb⟩)
          · rintro g rfl
            exact a1
        · rw [st0 ?_] at h
          · exact h
          · intro g hg
            rintro (⟨z, _⟩ | ⟨_, z, y⟩ | ⟨z, _⟩)
            · exact absurd z k2
            · rw [b4] at y
              exact hb y
            · rw [k3] at z; exact absurd z (by decide)
      · refine br_f k3 ?_
        by_cases k4 : K (m / 16) = 4
        · have n5 : ¬ K (m / 16) = 5 := by rw [k4]; decide
          obtain ⟨l, a, l1, l2, l3, a1, a2, a3, a4⟩ := hc_l W C hv (hn_4 k4)
          obtain ⟨l', b, l1', l2', l3', b1, b2, b3, b4⟩ := hc_r W C hv (hn_4 k4) n5
          refine br_t k4 (xi_lft W C hm hv (hn_4 k4) (xi_key4 W C hm hv k4 b1 b2 b3 (fun k5 => ?_) (fun k5 => br_t rfl ?_)))
          · obtain ⟨l'', d, l1'', l2'', l3'', d1, d2, d3, d4⟩ := hc_l W C (hc_g C b1 b3) (hn_5 k5)
            rw [a2, d2]
            refine br_f (ha_ne1 (by omega)) (xl_held hG d1 hi (fun hd => br_f (by decide) (xl_learn a1 hi ?_)) (fun hd => br_t rfl ?_))
            · rw [st (fun x => x = a) ?_ ?_] at h
              · exact h
              · intro g hg
                constructor
                · rintro (⟨z, _⟩ | ⟨z, _⟩ | ⟨_, z, _⟩)
                  · exact absurd z k2
                  · exact absurd z k3
                  · exact ha_eq (z.symm.trans a2) (by omega) (by omega)
                · rintro rfl
                  exact Or.inr (Or.inr ⟨k4, a2, by rw [b4]; exact k5, by rw [b4, d4]; exact hd⟩)
              · rintro g rfl
                exact a1
            · rw [st0 ?_] at h
              · exact h
              · intro g hg
                rintro (⟨z, _⟩ | ⟨z, _⟩ | ⟨_, z, _, y⟩)
                · exact absurd z k2
                · exact absurd z k3
                · rw [b4, d4] at y
                  exact hd y
          · rw [st0 ?_] at h
            · exact h
            · intro g hg
              rintro (⟨z, _⟩ | ⟨z, _⟩ | ⟨_, z, y, _⟩)
              · exact absurd z k2
              · exact absurd z k3
              · rw [b4] at y
                exact k5 y
        · refine br_f k4 ?_
          rw [st0 ?_] at h
          · exact h
          · intro g hg
            rintro (⟨z, _⟩ | ⟨z, _⟩ | ⟨z, _⟩)
            · exact absurd z k2
            · exact absurd z k3
            · exact absurd z k4
theorem xl_apart {post : SX → Prop} (W : hp_W n c K L R) (C : hp_C n c K L R A) (hG : hp_G A Rk i) (hi : i < 1000)
    (h : post (fN, fT, fP, fp, fc, fe, fr, fs, nI (hp_k (hp_u Rk i (hp_X n K L R A r0 r1 rc Rk i 256 256 0 0)) 256), K, L, R, M, A, hp_u Rk i (hp_X n K L R A r0 r1 rc Rk i 256 256 0 0), E, r0, r1, rc, F)) :
    wpX_takeApart post (fN, fT, fP, fp, fc, fe, fr, fs, nI (hp_k (hp_u Rk i (hp_X n K L R A r0 r1 rc Rk i 256 0 0 0)) 256), K, L, R, M, A, hp_u Rk i (hp_X n K L R A r0 r1 rc Rk i 256 0 0 0), E, r0, r1, rc, F) (nI i) := by
  refine pk_loop (fun f m (_ : Unit) => wX_takeApart_2 post (nI i) f (nI m) fN fT fP fp fc fe fr fs (nI (hp_k (hp_u Rk i (hp_X n K L R A r0 r1 rc Rk i 256 m 0 0)) 256)) K L R M A (hp_u Rk i (hp_X n K L R A r0 r1 rc Rk i 256 m 0 0)) E r0 r1 rc F) (fun _ _ => True) 256 0 () (by omega) trivial ?_ ?_
  · intro f s _
    exact br_t (nI_le (a := 256) (b := 256) (by omega) (by decide)) h
  · intro f m s hm _ nx
    have nx := nx () trivial
    have n0 : ¬ (A m = nI m ∧ hp_H Rk i m) → ∀ x, x = nI m + 1 → wX_takeApart_2 post (nI i) f x fN fT fP fp fc fe fr fs (nI (hp_k (hp_u Rk i (hp_X n K L R A r0 r1 rc Rk i 256 m 0 0)) 256)) K L R M A (hp_u Rk i (hp_X n K L R A r0 r1 rc Rk i 256 m 0 0)) E r0 r1 rc F := fun z => by
      rw [hu_e (Rk := Rk) (i := i) (fun g => hx_t0 (n := n) (r0 := r0) (r1 := r1) (rc := rc) (mc := 256) (mt := m) (r := 0) (s := 0) (g := g) (fun g hg y => z ⟨y.1, y.2.1⟩))] at nx
      exact nm_r (nI_1 m) nx
    refine br_f (nI_ge (b := 256) hm (by decide)) (xi_gid hm (fun e => br_f (by decide) (xl_held hG hm hi (fun hH => br_f (by decide) (xl_one W C hG hi hm e hH (nm_r (nI_1 m) nx))) (fun hH => br_t rfl (n0 (fun z => hH z.2))))) (fun e => br_t rfl (n0 (fun z => e z.1))))
theorem xl_sup {post : Int32 → Prop} {x : Int32} {s : Nat} (W : hp_W n c K L R) (C : hp_C n c K L R A) (hG : hp_G A Rk i) (hi : i < 1000) (hx : x = -1 ∨ ∃ h, h < c ∧ x = nI h) (hs : s < 16) (hV : hp_V n s) (h1 : hp_m A Rk i x s → post 1) (h0 : ¬ hp_m A Rk i x s → post 0) : wpX_isSupplied post (fN, fT, fP, fp, fc, fe, fr, fs, fk, K, L, R, M, A, hp_u Rk i D, E, r0, r1, rc, F) x (nI s) (nI i) := by
  have w := W.2.2.1
  by_cases e : x = -1
  · exact br_t e (h1 (Or.inl e))
  · obtain ⟨h, hh, rfl⟩ := hx.resolve_left e
    have e1 : nI h * 16 + nI s = nI (h * 16 + s) := by rw [ha_16, nI_add]
    have e2 : (h * 16 + s) % 16 = s := by omega
    obtain ⟨a, a1, a2, a3, a4⟩ := hc_p W C (t := h * 16 + s) ⟨by omega, by rw [e2]; exact hV⟩
    refine br_f e ?_
    unfold hp_m at h1 h0
    rw [nI_clamp (by omega), a4] at h1 h0
    rw [e1, nI_clamp (by omega), a2]
    exact ⟨vp_in_nI (by omega) (by decide), xl_held hG a1 hi (fun z => br_f (by decide) (h1 (Or.inr z))) (fun z => br_t rfl (h0 (fun y => y.elim e z)))⟩
theorem xl_rules {post : SX → Prop} {nr : Nat} (W : hp_W n c K L R) (C : hp_C n c K L R A) (hR : hp_R c nr r0 r1 rc) (h8 : nr ≤ 8) (hG : hp_G A Rk i) (hi : i < 1000)
    (h : post (nI n, fT, fP, fp, fc, fe, nI nr, fs, nI (hp_k (hp_u Rk i (hp_X n K L R A r0 r1 rc Rk i 256 256 nr 0)) 256), K, L, R, M, A, hp_u Rk i (hp_X n K L R A r0 r1 rc Rk i 256 256 nr 0), E, r0, r1, rc, F)) :
    wpX_applyRules post (nI n, fT, fP, fp, fc, fe, nI nr, fs, nI (hp_k (hp_u Rk i (hp_X n K L R A r0 r1 rc Rk i 256 256 0 0)) 256), K, L, R, M, A, hp_u Rk i (hp_X n K L R A r0 r1 rc Rk i 256 256 0 0), E, r0, r1, rc, F) (nI i) := by
  have w := W.2.2.1
  have w4 := W.2.1
  refine pk_loop (fun f r (_ : Unit) => wX_applyRules_2 post (nI i) f (nI r) (nI n) fT fP fp fc fe (nI nr) fs (nI (hp_k (hp_u Rk i (hp_X n K L R A r0 r1 rc Rk i 256 256 r 0)) 256)) K L R M A (hp_u Rk i (hp_X n K L R A r0 r1 rc Rk i 256 256 r 0)) E r0 r1 rc F) (fun _ _ => True) nr 0 () (by omega) trivial ?_ ?_
  · intro f s _
    exact br_t (nI_le (Nat.le_refl _) (by omega)) h
  · intro f r s hr _ nx
    have nx := nx () trivial
    have hin : vp_in (nI r) 8 := vp_in_nI (by omega) (by decide)
    have hcl : (nI r).toNatClampNeg = r := nI_clamp (by omega)
    obtain ⟨o1, o2, hc, hcc, ec⟩ := hR r hr
    refine br_f (nI_ge hr (by omega)) ?_
    refine pk_loop (fun f' vy (_ : Unit) => wX_applyRules_12 post (wX_applyRules_2 post (nI i) f) (nI i) (nI r) f' (nI vy) (nI n) fT fP fp fc fe (nI nr) fs (nI (hp_k (hp_u Rk i (hp_X n K L R A r0 r1 rc Rk i 256 256 r (4 * vy))) 256)) K L R M A (hp_u Rk i (hp_X n K L R A r0 r1 rc Rk i 256 256 r (4 * vy))) E r0 r1 rc F) (fun _ _ => True) n 0 () (by omega) trivial ?_ ?_
    · intro f' s _
      rw [hu_e (Rk := Rk) (i := i) (fun g => hx_rn (n := n) (K := K) (L := L) (R := R) (A := A) (r0 := r0) (r1 := r1) (rc := rc) (mc := 256) (mt := 256) (r := r) (s := 4 * n) (g := g) (fun x h1 h2 z => by have := z.2; omega))] at nx
      exact br_t (nI_le (Nat.le_refl _) (by omega)) (nm_r (nI_1 r) nx)
    · intro f' vy s hvy _ ny
      have ny := ny () trivial
      refine br_f (nI_ge hvy (by omega)) ?_
      refine pk_loop (fun f'' vx (_ : Unit) => wX_applyRules_23 post (wX_applyRules_2 post (nI i) f) (wX_applyRules_12 post (wX_applyRules_2 post (nI i) f) (nI i) (nI r) f') (nI i) (nI r) (nI vy) f'' (nI vx) (nI n) fT fP fp fc fe (nI nr) fs (nI (hp_k (hp_u Rk i (hp_X n K L R A r0 r1 rc Rk i 256 256 r (4 * vy + vx))) 256)) K L R M A (hp_u Rk i (hp_X n K L R A r0 r1 rc Rk i 256 256 r (4 * vy + vx))) E r0 r1 rc F) (fun _ _ => True) n 0 () (by omega) trivial ?_ ?_
      · intro f'' s _
        rw [hu_e (Rk := Rk) (i := i) (fun g => hx_rs (n := n) (K := K) (L := L) (R := R) (A := A) (r0 := r0) (r1 := r1) (rc := rc) (mc := 256) (mt := 256) (r := r) (s := 4 * vy + n) (s2 := 4 * (vy + 1)) (g := g) (by omega) (fun x h1 h2 h3 z => by have := z.1; omega))] at ny
        exact br_t (nI_le (Nat.le_refl _) (by omega)) (nm_r (nI_1 vy) ny)
      · intro f'' vx s hvx _ nz
        have nz := nz () trivial
        have hV : hp_V n (4 * vy + vx) := ⟨by omega, by omega⟩
        have em : nI vx + 4 * nI vy = nI (4 * vy + vx) := by
          rw [ha_4, nI_add]
          exact congrArg nI (by omega)
        have e2 : (hc * 16 + (4 * vy + vx)) % 16 = 4 * vy + vx := by omega
        obtain ⟨a, a1, a2, a3, a4⟩ := hc_p W C (t := hc * 16 + (4 * vy + vx)) ⟨by omega, by rw [e2]; exact hV⟩
        have ef : ∀ g, g < 256 → (hp_F n A r0 r1 rc Rk i r (4 * vy + vx) g ↔ ((hp_m A Rk i (r0 r) (4 * vy + vx) ∧ hp_m A Rk i (r1 r) (4 * vy + vx)) ∧ g = a)) := fun g hg => by
          unfold hp_F
          rw [ec, nI_clamp (by omega), a2]
          constructor
          · rintro ⟨_, z, y⟩
            exact ⟨y, ha_eq z.symm (by omega) (by omega)⟩
          · rintro ⟨y, rfl⟩
            exact ⟨hV, rfl, y⟩
        have n0 : ¬ (hp_m A Rk i (r0 r) (4 * vy + vx) ∧ hp_m A Rk i (r1 r) (4 * vy + vx)) → ∀ x, x = nI vx + 1 → wX_applyRules_23 post (wX_applyRules_2 post (nI i) f) (wX_applyRules_12 post (wX_applyRules_2 post (nI i) f) (nI i) (nI r) f') (nI i) (nI r) (nI vy) f'' x (nI n) fT fP fp fc fe (nI nr) fs (nI (hp_k (hp_u Rk i (hp_X n K L R A r0 r1 rc Rk i 256 256 r (4 * vy + vx))) 256)) K L R M A (hp_u Rk i (hp_X n K L R A r0 r1 rc Rk i 256 256 r (4 * vy + vx))) E r0 r1 rc F := fun z => by
          have e0 : hp_u Rk i (hp_X n K L R A r0 r1 rc Rk i 256 256 r (4 * vy + (vx + 1))) = hp_u Rk i (hp_X n K L R A r0 r1 rc Rk i 256 256 r (4 * vy + vx)) := by
            refine hu_e (fun g => (hx_r (s := 4 * vy + vx) (fun _ => False) (by omega) (fun g hg => ?_) (fun g y => y.elim)).trans ⟨fun y => y.elim id (fun u => u.elim), Or.inl⟩)
            rw [ef g hg]
            exact ⟨fun y => z y.1, fun y => y.elim⟩
          rw [e0] at nz
          exact nm_r (nI_1 vx) nz
        refine br_f (nI_ge hvx (by omega)) (nm_r em ⟨hin, ?_⟩)
        rw [hcl]
        refine xl_sup W C hG hi o1 (by omega) hV (fun m1 => br_f (by decide) ⟨hin, xl_sup W C hG hi o2 (by omega) hV (fun m2 => br_f (by decide) ⟨hin, ?_⟩) (fun m2 => br_t rfl (n0 (fun z => m2 z.2)))⟩) (fun m1 => br_t rfl (n0 (fun z => m1 z.1)))
        have e1 : rc r * 16 + nI (4 * vy + vx) = nI (hc * 16 + (4 * vy + vx)) := by rw [ec, ha_16, nI_add]
        rw [e1, nI_clamp (n := hc * 16 + (4 * vy + vx)) (by omega), a2]
        refine ⟨vp_in_nI (by omega) (by decide), xl_learn a1 hi ?_⟩
        have e3 : hp_u Rk i (hp_X n K L R A r0 r1 rc Rk i 256 256 r (4 * vy + (vx + 1))) = hp_u Rk i (fun x => hp_X n K L R A r0 r1 rc Rk i 256 256 r (4 * vy + vx) x ∨ x = a) := by
          refine hu_e (fun g => hx_r (s := 4 * vy + vx) (fun x => x = a) (by omega) (fun g hg => ?_) (fun g y => by rw [y]; exact a1))
          rw [ef g hg]
          exact ⟨fun y => y.2, fun y => ⟨⟨m1, m2⟩, y⟩⟩
        rw [e3] at nz
        exact nm_r (nI_1 vx) nz
end HP
end
section
/-! the reference's derivable -/
section HYD
variable {fN fT fP fc fe fr fs fp fk : Int32} {K L R Ym E r0 r1 rc F Yc Yk : Nat → Int32} {A Rk : Nat → Int32} {n c i g nr : Nat} {D : Nat → Prop} {post : Int32 → Prop}
theorem yl_inK (hG : hp_G A Rk i) (hg : g < 256) (hi : i < 1000) (h1 : hp_H Rk i g → post 1) (h0 : ¬ hp_H Rk i g → post 0) : wpY_inK post (fN, fT, fP, fc, fe, fr, fs, fp, fk, K, L, R, Ym, E, r0, r1, rc, F, A, hp_u Rk i D) (nI g) (nI i) := by
  have hin : vp_in (nI g) 256 := vp_in_nI hg (by decide)
  have hcl : (nI g).toNatClampNeg = g := nI_clamp (by omega)
  rw [← hu_H (D := D) hi] at h1 h0
  refine br_f (nI_pos (by omega)) (br_f (nI_ge (b := 256) hg (by decide)) ⟨hin, ?_⟩)
  rw [hcl]
  rcases hu_v (D := D) hG hg with e | ⟨j, hj, e⟩
  · refine br_t (by rw [e]; decide) (h0 ?_)
    rintro ⟨j, _, e'⟩
    rw [e] at e'
    exact ha_ne1 (by omega) e'.symm
  · refine br_f (by rw [e]; exact nI_pos (by omega)) ⟨hin, ?_⟩
    rw [e]
    by_cases h : i < j
    · refine br_t (nI_lt h (by omega)) (h0 ?_)
      rintro ⟨j', hj', e'⟩
      have := ha_eq (e.symm.trans e') (by omega) (by omega)
      omega
    · exact br_f (nI_nlt (by omega) (by omega)) (h1 ⟨j, by omega, e⟩)
theorem yl_prem {x : Int32} {s : Nat} (W : hp_W n c K L R) (C : hp_C n c K L R A) (hG : hp_G A Rk i) (hi : i < 1000) (hx : x = -1 ∨ ∃ h, h < c ∧ x = nI h) (hs : s < 16) (hV : hp_V n s) (h1 : hp_m A Rk i x s → post 1) (h0 : ¬ hp_m A Rk i x s → post 0) : wpY_premOk post (fN, fT, fP, fc, fe, fr, fs, fp, fk, K, L, R, Ym, E, r0, r1, rc, F, A, hp_u Rk i D) x (nI s) (nI i) := by
  have w := W.2.2.1
  by_cases e : x = -1
  · exact br_t e (h1 (Or.inl e))
  · obtain ⟨h, hh, rfl⟩ := hx.resolve_left e
    have e1 : (nI h * 16 + nI s) &&& 255 = nI (h * 16 + s) := by rw [ha_16, nI_add, ha_a255 (by omega)]
    have e2 : (h * 16 + s) % 16 = s := by omega
    obtain ⟨a, a1, a2, a3, a4⟩ := hc_p W C (t := h * 16 + s) ⟨by omega, by rw [e2]; exact hV⟩
    refine br_f e ?_
    unfold hp_m at h1 h0
    rw [nI_clamp (by omega), a4] at h1 h0
    rw [e1, nI_clamp (by omega), a2]
    exact ⟨vp_in_nI (by omega) (by decide), yl_inK hG a1 hi (fun z => br_f (by decide) (h1 (Or.inr z))) (fun z => br_t rfl (h0 (fun y => y.elim e z)))⟩
theorem yl_fires {r : Nat} (W : hp_W n c K L R) (C : hp_C n c K L R A) (hR : hp_R c nr r0 r1 rc) (hr : r < nr) (h8 : nr ≤ 8) (hG : hp_G A Rk i) (hi : i < 1000) (hg : g < 256)
    (h1 : (∃ s, s < 16 ∧ hp_F n A r0 r1 rc Rk i r s g) → post 1) (h0 : (∀ s, s < 16 → ¬ hp_F n A r0 r1 rc Rk i r s g) → post 0) : wpY_ruleFires post (nI n, fT, fP, fc, fe, fr, fs, fp, fk, K, L, R, Ym, E, r0, r1, rc, F, A, hp_u Rk i D) (nI r) (nI g) (nI i) := by
  have w := W.2.2.1
  have w4 := W.2.1
  have hin : vp_in (nI r) 8 := vp_in_nI (by omega) (by decide)
  have hcl : (nI r).toNatClampNeg = r := nI_clamp (by omega)
  obtain ⟨o1, o2, hc, hcc, ec⟩ := hR r hr
  refine pk_loop (fun f s (_ : Unit) => wY_ruleFires_3 post (nI r) (nI g) (nI i) (nI n) fT fP fc fe fr fs fp fk K L R Ym E r0 r1 rc F A (hp_u Rk i D) f (nI s)) (fun s _ => ∀ t, t < s → ¬ hp_F n A r0 r1 rc Rk i r t g) 16 0 () (by omega) (fun q hq => absurd hq (Nat.not_lt_zero q)) ?_ ?_
  · intro f s hs
    exact br_t (nI_le (a := 16) (b := 16) (by omega) (by decide)) (h0 hs)
  · intro f s _ hs16 hs nx
    have nx : ¬ hp_F n A r0 r1 rc Rk i r s g → ∀ x, x = nI s + 1 → wY_ruleFires_3 post (nI r) (nI g) (nI i) (nI n) fT fP fc fe fr fs fp fk K L R Ym E r0 r1 rc F A (hp_u Rk i D) f x := fun z => nm_r (nI_1 s) (nx () (lt_s hs z))
    refine br_f (nI_ge (b := 16) hs16 (by decide)) (yi_vc w4 hs16 (fun hV => br_f (by decide) ⟨hin, ?_⟩) (fun hV => br_t rfl (nx (fun z => hV z.1))))
    have e1 : (rc r * 16 + nI s) &&& 255 = nI (hc * 16 + s) := by rw [ec, ha_16, nI_add, ha_a255 (by omega)]
    have e2 : (rc r).toNatClampNeg = hc := by rw [ec, nI_clamp (by omega)]
    rw [hcl, e1, nI_clamp (n := hc * 16 + s) (by omega)]
    refine ⟨vp_in_nI (by omega) (by decide), ?_⟩
    by_cases d : A (hc * 16 + s) = nI g
    · refine br_t d ⟨hin, yl_prem W C hG hi o1 hs16 hV (fun m1 => br_f (by decide) ⟨hin, yl_prem W C hG hi o2 hs16 hV (fun m2 => br_f (by decide) (h1 ⟨s, hs16, hV, by rw [e2]; exact d, m1, m2⟩)) (fun m2 => br_t rfl (nx (fun z => m2 z.2.2.2)))⟩) (fun m1 => br_t rfl (nx (fun z => m1 z.2.2.1)))⟩
    · exact br_f d (nx (fun z => d (by rw [← e2]; exact z.2.1)))
theorem yl_220 (W : hp_W n c K L R) (C : hp_C n c K L R A) (hR : hp_R c nr r0 r1 rc) (h8 : nr ≤ 8) (hG : hp_G A Rk i) (hi : i < 1000) (hg : g < 256)
    (h1 : (∃ r s, r < nr ∧ s < 16 ∧ hp_F n A r0 r1 rc Rk i r s g) → post 1) (h0 : (¬ ∃ r s, r < nr ∧ s < 16 ∧ hp_F n A r0 r1 rc Rk i r s g) → post 0) : ∃ f, wY_derivable_220 post (nI g) (nI i) (nI n) fT fP fc fe (nI nr) fs fp fk K L R Ym E r0 r1 rc F A (hp_u Rk i D) f 0 := by
  refine pk_loop (fun f r (_ : Unit) => wY_derivable_220 post (nI g) (nI i) (nI n) fT fP fc fe (nI nr) fs fp fk K L R Ym E r0 r1 rc F A (hp_u Rk i D) f (nI r)) (fun r _ => ∀ t, t < r → ∀ s, s < 16 → ¬ hp_F n A r0 r1 rc Rk i t s g) nr 0 () (by omega) (fun q hq => absurd hq (Nat.not_lt_zero q)) ?_ ?_
  · intro f s hs
    exact br_t (nI_le (Nat.le_refl _) (by omega)) (h0 (fun ⟨r, s, a, b, z⟩ => hs r a s b z))
  · intro f r _ hr hs nx
    refine br_f (nI_ge hr (by omega)) (yl_fires W C hR hr h8 hG hi hg (fun ⟨s, a, z⟩ => br_f (by decide) (h1 ⟨r, s, hr, a, z⟩)) (fun z => br_t rfl (nm_r (nI_1 r) (nx () (lt_s hs z)))))
theorem yl_67 (W : hp_W n c K L R) (C : hp_C n c K L R A) (hR : hp_R c nr r0 r1 rc) (h8 : nr ≤ 8) (hG : hp_G A Rk i) (hi : i < 1000) (hg : g < 256) (hA : A g = nI g) (hc : ¬ hp_c K L R A Rk i g)
    (h1 : hp_D n nr K L R A r0 r1 rc Rk i g → post 1) (h0 : ¬ hp_D n nr K L R A r0 r1 rc Rk i g → post 0) : ∃ f, wY_derivable_67 post (nI g) (nI i) (nI n) fT fP fc fe (nI nr) fs fp fk K L R Ym E r0 r1 rc F A (hp_u Rk i D) f 0 := by
  refine pk_loop (fun f t (_ : Unit) => wY_derivable_67 post (nI g) (nI i) (nI n) fT fP fc fe (nI nr) fs fp fk K L R Ym E r0 r1 rc F A (hp_u Rk i D) f (nI t)) (fun t _ => ∀ t', t' < t → hp_H Rk i t' → ¬ hp_E K L R A Rk i t' g) 256 0 () (by omega) (fun q hq => absurd hq (Nat.not_lt_zero q)) ?_ ?_
  · intro f s hs
    refine br_t (nI_le (a := 256) (b := 256) (by omega) (by decide)) (yl_220 W C hR h8 hG hi hg (fun z => h1 ⟨hg, hA, Or.inr (Or.inr z)⟩) (fun z => h0 ?_))
    rintro ⟨_, _, y | ⟨t, a, _, b, y⟩ | y⟩
    · exact hc y
    · exact hs t a b y
    · exact z y
  · intro f t _ ht hs nx
    have nx : ¬ (hp_H Rk i t ∧ hp_E K L R A Rk i t g) → ∀ x, x = nI t + 1 → wY_derivable_67 post (nI g) (nI i) (nI n) fT fP fc fe (nI nr) fs fp fk K L R Ym E r0 r1 rc F A (hp_u Rk i D) f x := fun z => nm_r (nI_1 t) (nx () (lt_s hs (fun a b => z ⟨a, b⟩)))
    refine br_f (nI_ge (b := 256) ht (by decide)) (yl_inK hG ht hi (fun hH => br_f (by decide) ?_) (fun hH => br_t rfl (nx (fun z => hH z.1))))
    have et : A t = nI t := by
      rcases hG t ht with a | a
      · obtain ⟨j, _, e⟩ := hH
        rw [a] at e
        have := W.2.1
        by_cases hj : j < 1000
        · exact absurd e.symm (ha_ne1 (by omega))
        · omega
      · exact a.1
    have hv := hc_g C ht et
    have yes : hp_E K L R A Rk i t g → post 1 := fun z => h1 ⟨hg, hA, Or.inr (Or.inl ⟨t, ht, et, hH, z⟩)⟩
    have no : ¬ hp_E K L R A Rk i t g → ∀ x, x = nI t + 1 → wY_derivable_67 post (nI g) (nI i) (nI n) fT fP fc fe (nI nr) fs fp fk K L R Ym E r0 r1 rc F A (hp_u Rk i D) f x := fun z => nx (fun y => z y.2)
    have d5 : ∀ m : Int32, ¬ m = 0 → ¬ m = 1 → (hp_kk K t = m ↔ K (t / 16) = m) := fun m a b => hk_i a b
    refine yi_kk ht ?_
    by_cases k2 : K (t / 16) = 2
    · have n5 : ¬ K (t / 16) = 5 := by rw [k2]; decide
      refine br_t ((d5 2 (by decide) (by decide)).mpr k2) (yi_lft W C ht hv (hn_2 k2) ?_)
      by_cases e1 : A (hp_l L t) = nI g
      · exact br_t e1 (yes (Or.inl ⟨k2, Or.inl e1⟩))
      · refine br_f e1 (yi_rgt W C ht hv (hn_2 k2) n5 ?_)
        by_cases e2 : A (hp_l R t) = nI g
        · exact br_t e2 (yes (Or.inl ⟨k2, Or.inr e2⟩))
        · refine br_f e2 (br_f (fun z => ?_) (br_f (fun z => ?_) (no ?_)))
          · rw [d5 3 (by decide) (by decide), k2] at z
            exact absurd z (by decide)
          · rw [d5 4 (by decide) (by decide), k2] at z
            exact absurd z (by decide)
          · rintro (⟨_, z | z⟩ | ⟨z, _⟩ | ⟨z, _⟩)
            · exact e1 z
            · exact e2 z
            · rw [k2] at z; exact absurd z (by decide)
            · rw [k2] at z; exact absurd z (by decide)
    · refine br_f (fun z => k2 ((d5 2 (by decide) (by decide)).mp z)) ?_
      by_cases k3 : K (t / 16) = 3
      · have n5 : ¬ K (t / 16) = 5 := by rw [k3]; decide
        have n4 : ¬ hp_kk K t = 4 := fun z => by
          rw [d5 4 (by decide) (by decide), k3] at z
          exact absurd z (by decide)
        refine br_t ((d5 3 (by decide) (by decide)).mpr k3) (yi_lft W C ht hv (hn_3 k3) ?_)
        by_cases e1 : A (hp_l L t) = nI g
        · obtain ⟨l', b, l1', l2', l3', b1, b2, b3, b4⟩ := hc_r W C hv (hn_3 k3) n5
          refine br_t e1 (yi_rgt W C ht hv (hn_3 k3) n5 ?_)
          rw [b2]
          refine yl_inK hG b1 hi (fun hb => br_f (by decide) (yes (Or.inr (Or.inl ⟨k3, e1, by rw [b4]; exact hb⟩)))) (fun hb => br_t rfl (br_f n4 (no ?_)))
          rintro (⟨z, _⟩ | ⟨_, _, z⟩ | ⟨z, _⟩)
          · exact k2 z
          · rw [b4] at z
            exact hb z
          · rw [k3] at z; exact absurd z (by decide)
        · refine br_f e1 (br_f n4 (no ?_))
          rintro (⟨z, _⟩ | ⟨_, z, _⟩ | ⟨z, _⟩)
          · exact k2 z
          · exact e1 z
          · rw [k3] at z; exact absurd z (by decide)
      · refine br_f (fun z => k3 ((d5 3 (by decide) (by decide)).mp z)) ?_
        by_cases k4 : K (t / 16) = 4
        · have n5 : ¬ K (t / 16) = 5 := by rw [k4]; decide
          refine br_t ((d5 4 (by decide) (by decide)).mpr k4) (yi_lft W C ht hv (hn_4 k4) ?_)
          by_cases e1 : A (hp_l L t) = nI g
          · obtain ⟨l', b, l1', l2', l3', b1, b2, b3, b4⟩ := hc_r W C hv (hn_4 k4) n5
            refine br_t e1 (yi_rgt W C ht hv (hn_4 k4) n5 ?_)
            rw [b2]
            refine br_f (nI_pos (by omega)) (yi_kk b1 ?_)
            by_cases k5 : K (b / 16) = 5
            · obtain ⟨l'', d, l1'', l2'', l3'', d1, d2, d3, d4⟩ := hc_l W C (hc_g C b1 b3) (hn_5 k5)
              refine br_t ((hk_i (by decide) (by decide)).mpr k5) (yi_lft W C b1 (hc_g C b1 b3) (hn_5 k5) ?_)
              rw [d2]
              refine yl_inK hG d1 hi (fun hd => br_f (by decide) (yes (Or.inr (Or.inr ⟨k4, e1, by rw [b4]; exact k5, by rw [b4, d4]; exact hd⟩)))) (fun hd => br_t rfl (no ?_))
              rintro (⟨z, _⟩ | ⟨z, _⟩ | ⟨_, _, _, z⟩)
              · exact k2 z
              · exact k3 z
              · rw [b4, d4] at z
                exact hd z
            · refine br_f (fun z => k5 ((hk_i (by decide) (by decide)).mp z)) (no ?_)
              rintro (⟨z, _⟩ | ⟨z, _⟩ | ⟨_, _, z, _⟩)
              · exact k2 z
              · exact k3 z
              · rw [b4] at z
                exact k5 z
          · refine br_f e1 (no ?_)
            rintro (⟨z, _⟩ | ⟨z, _⟩ | ⟨_, z, _⟩)
            · exact k2 z
            · exact k3 z
            · exact e1 z
        · refine br_f (fun z => k4 ((d5 4 (by decide) (by decide)).mp z)) (no ?_)
          rintro (⟨z, _⟩ | ⟨z, _⟩ | ⟨z, _⟩)
          · exact k2 z
          · exact k3 z
          · exact k4 z
theorem yl_der (W : hp_W n c K L R) (C : hp_C n c K L R A) (hR : hp_R c nr r0 r1 rc) (h8 : nr ≤ 8) (hG : hp_G A Rk i) (hi : i < 1000) (hg : g < 256) (hA : A g = nI g)
    (h1 : hp_D n nr K L R A r0 r1 rc Rk i g → post 1) (h0 : ¬ hp_D n nr K L R A r0 r1 rc Rk i g → post 0) : wpY_derivable post (nI n, fT, fP, fc, fe, nI nr, fs, fp, fk, K, L, R, Ym, E, r0, r1, rc, F, A, hp_u Rk i D) (nI g) (nI i) := by
  have hv := hc_g C hg hA
  have go : ¬ hp_c K L R A Rk i g → ∃ f, wY_derivable_67 post (nI g) (nI i) (nI n) fT fP fc fe (nI nr) fs fp fk K L R Ym E r0 r1 rc F A (hp_u Rk i D) f 0 := fun z => yl_67 W C hR h8 hG hi hg hA z h1 h0
  have yes : hp_c K L R A Rk i g → post 1 := fun z => h1 ⟨hg, hA, Or.inl z⟩
  unfold wpY_derivable
  refine yi_kk hg ?_
  by_cases k0 : K (g / 16) = 0
  · have e : hp_kk K g = 0 := hk_1 (Or.inl k0)
    rw [e]
    exact br_t (by decide) (br_f (by decide) (go (fun z => z.2.1 (Or.inl k0))))
  · have na : ¬ hp_a K g := fun z => z.elim k0 (hc_nv W C hg hA)
    rw [hk_2 na]
    obtain ⟨l, a, l1, l2, l3, a1, a2, a3, a4⟩ := hc_l W C hv na
    rcases (hw_na na W hv.1).2.2 with ⟨k5, _⟩ | ⟨k234, _⟩
    · refine br_f (by rw [k5]; decide) (br_t (by rw [k5]; decide) (br_t k5 (yi_lft W C hg hv na ?_)))
      rw [a2]
      exact yl_inK hG a1 hi (fun hh => br_f (by decide) (yes ⟨hA, na, by rw [a4]; exact hh, Or.inl k5⟩)) (fun hh => br_t rfl (go (fun z => hh (by rw [← a4]; exact z.2.2.1))))
    · have n5 : ¬ K (g / 16) = 5 := by rcases k234 with e | e | e <;> rw [e] <;> decide
      have n2 : ¬ K (g / 16) < 2 := by rcases k234 with e | e | e <;> rw [e] <;> decide
      have n4 : ¬ (4 : Int32) < K (g / 16) := by rcases k234 with e | e | e <;> rw [e] <;> decide
      obtain ⟨l', b, l1', l2', l3', b1, b2, b3, b4⟩ := hc_r W C hv na n5
      refine br_f n2 (br_f n4 (yi_lft W C hg hv na ?_))
      rw [a2]
      refine yl_inK hG a1 hi (fun hh => br_f (by decide) (yi_rgt W C hg hv na n5 ?_)) (fun hh => br_t rfl (br_f n5 (go (fun z => hh (by rw [← a4]; exact z.2.2.1)))))
      rw [b2]
      exact yl_inK hG b1 hi (fun hb => br_f (by decide) (yes ⟨hA, na, by rw [a4]; exact hh, Or.inr (by rw [b4]; exact hb)⟩)) (fun hb => br_t rfl (br_f n5 (go (fun z => z.2.2.2.elim n5 (fun y => hb (by rw [← b4]; exact y))))))
end HYD
end
section
/-! saturate -/
def hp_e0 (Z A E : Nat → Int32) : Nat → Nat → Int32
  | 0 => Z
  | e + 1 => upd (hp_e0 Z A E e) (hp_i A ((E e).toNatClampNeg * 16)) 0
section HQ
variable {Rk Z A E K L R r0 r1 rc : Nat → Int32} {n c i g ne nr : Nat} {D : Nat → Prop}
theorem hs_no (h : ∀ x, x < 256 → ¬ (Rk x = -1 ∧ D x)) (hD : ∀ g, D g → g < 256) : hp_u Rk i D = Rk := by
  funext x
  by_cases d : D x
  · exact hu_3 (fun z => h x (hD x d) ⟨z, d⟩)
  · exact hu_2 d
theorem hs_new (hi : i < 1000) (he : hp_k (hp_u Rk i D) 256 = hp_k Rk 256) : ∀ x, x < 256 → ¬ (Rk x = -1 ∧ D x) := by
  intro x hx z
  have := hk_e (m := 256) (Rk := Rk) (Rk' := hp_u Rk i D) (fun g _ => hu_m hi) he x hx z.1
  rw [hu_1 z.1 z.2] at this
  exact ha_ne1 (by omega) this
theorem he_x (W : hp_W n c K L R) (C : hp_C n c K L R A) {e : Nat} (hE : ∃ h, h < c ∧ E e = nI h) : ∃ h x, h < 16 ∧ E e = nI h ∧ x < 256 ∧ A (h * 16) = nI x ∧ A x = nI x ∧ hp_i A ((E e).toNatClampNeg * 16) = x := by
  obtain ⟨h, hh, eh⟩ := hE
  have w := W.2.2.1
  have w1 := W.1
  have e2 : (h * 16) % 16 = 0 := by omega
  obtain ⟨x, x1, x2, x3, x4⟩ := hc_p W C (t := h * 16) ⟨by omega, by rw [e2]; exact ⟨by omega, by omega⟩⟩
  exact ⟨h, x, by omega, eh, x1, x2, x3, by rw [eh, nI_clamp (by omega)]; exact x4⟩
theorem he_G (W : hp_W n c K L R) (C : hp_C n c K L R A) (hE : ∀ e, e < ne → ∃ h, h < c ∧ E e = nI h) (hz : ∀ g, g < 256 → Z g = -1) : ∀ e, e ≤ ne → hp_G A (hp_e0 Z A E e) 0 := by
  intro e
  induction e with
  | zero => exact fun _ g hg => Or.inl (hz g hg)
  | succ e ih =>
    intro he g hg
    obtain ⟨h, x, h1, h2, x1, x2, x3, x4⟩ := he_x W C (hE e (by omega))
    show upd (hp_e0 Z A E e) (hp_i A ((E e).toNatClampNeg * 16)) 0 g = -1 ∨ (A g = nI g ∧ ∃ j, j ≤ 0 ∧ upd (hp_e0 Z A E e) (hp_i A ((E e).toNatClampNeg * 16)) 0 g = nI j)
    rw [x4]
    by_cases eg : g = x
    · subst eg
      exact Or.inr ⟨x3, 0, Nat.le_refl _, pk_us⟩
    · rw [pk_un eg]
      exact ih (by omega) g hg
theorem hi_G (R0 : Nat → Int32) (h : hp_G A R0 0) : ∀ i, hp_G A (hp_it R0 (hp_D n nr K L R A r0 r1 rc) i) i := by
  intro i
  induction i with
  | zero => exact h
  | succ i ih => exact hg_s (fun g d => d.2.1) ih
theorem hk_00 (m : Nat) (h : ∀ g, g < m → Z g = -1) : hp_k Z m = 0 := by
  induction m with
  | zero => rfl
  | succ m ih =>
    show hp_k Z m + (if Z m = -1 then 0 else 1) = 0
    rw [ih (fun g hg => h g (by omega)), if_pos (h m (by omega))]
end HQ
section HXS
variable {fN fT fP fp fc fe fr fs fk : Int32} {K L R M A Z E r0 r1 rc F : Nat → Int32} {Rk : Nat → Int32} {n c i f nr ne : Nat}
theorem xl_55 {post : Int32 → SX → Prop} {R0 : Nat → Int32} (W : hp_W n c K L R) (C : hp_C n c K L R A) (hR : hp_R c nr r0 r1 rc) (h8 : nr ≤ 8) (hG : hp_G A R0 0) (hf : f ≤ 256)
    (fe1 : hp_k (hp_it R0 (hp_D n nr K L R A r0 r1 rc) (f + 1)) 256 = hp_k (hp_it R0 (hp_D n nr K L R A r0 r1 rc) f) 256)
    (fl : ∀ j, j < f → hp_k (hp_it R0 (hp_D n nr K L R A r0 r1 rc) j) 256 < hp_k (hp_it R0 (hp_D n nr K L R A r0 r1 rc) (j + 1)) 256)
    (h : post (nI (hp_k (hp_it R0 (hp_D n nr K L R A r0 r1 rc) (f + 1)) 256)) (nI n, fT, fP, fp, fc, fe, nI nr, fs, nI (hp_k (hp_it R0 (hp_D n nr K L R A r0 r1 rc) (f + 1)) 256), K, L, R, M, A, hp_it R0 (hp_D n nr K L R A r0 r1 rc) (f + 1), E, r0, r1, rc, F)) :
    ∀ d i, i + d = f → wX_saturate_55 post (d + 2) 1 (nI i) (nI n) fT fP fp fc fe (nI nr) fs (nI (hp_k (hp_it R0 (hp_D n nr K L R A r0 r1 rc) i) 256)) K L R M A (hp_it R0 (hp_D n nr K L R A r0 r1 rc) i) E r0 r1 rc F := by
  have rnd : ∀ (post : SX → Prop) i, i < 1000 → post (nI n, fT, fP, fp, fc, fe, nI nr, fs, nI (hp_k (hp_it R0 (hp_D n nr K L R A r0 r1 rc) (i + 1)) 256), K, L, R, M, A, hp_it R0 (hp_D n nr K L R A r0 r1 rc) (i + 1), E, r0, r1, rc, F) → wpX_applyRules post (nI n, fT, fP, fp, fc, fe, nI nr, fs, nI (hp_k (hp_u (hp_it R0 (hp_D n nr K L R A r0 r1 rc) i) i (hp_X n K L R A r0 r1 rc (hp_it R0 (hp_D n nr K L R A r0 r1 rc) i) i 256 256 0 0)) 256), K, L, R, M, A, hp_u (hp_it R0 (hp_D n nr K L R A r0 r1 rc) i) i (hp_X n K L R A r0 r1 rc (hp_it R0 (hp_D n nr K L R A r0 r1 rc) i) i 256 256 0 0), E, r0, r1, rc, F) (nI i) := fun post i hi hp => by
    refine xl_rules W C hR h8 (hi_G R0 hG i) hi ?_
    have e : hp_u (hp_it R0 (hp_D n nr K L R A r0 r1 rc) i) i (hp_X n K L R A r0 r1 rc (hp_it R0 (hp_D n nr K L R A r0 r1 rc) i) i 256 256 nr 0) = hp_it R0 (hp_D n nr K L R A r0 r1 rc) (i + 1) := hu_e (fun g => hx_D W C hR)
    rw [e]
    exact hp
  have bd : ∀ i, hp_k (hp_it R0 (hp_D n nr K L R A r0 r1 rc) i) 256 < 2 ^ 31 := fun i => Nat.lt_of_le_of_lt hk_le (by decide)
  intro d
  induction d with
  | zero =>
    intro i hi
    have e : i = f := by omega
    subst e
    refine br_f (by decide) (br_f (nI_nlt (b := i) (a := 256) hf (by omega)) (xl_comp W C (hi_G R0 hG i) (by omega) (xl_apart W C (hi_G R0 hG i) (by omega) (rnd _ i (by omega) ?_))))
    refine br_t (nI_le (by omega) (bd _)) (nm_r (nI_1 i) (br_t rfl h))
  | succ d ih =>
    intro i hi
    refine br_f (by decide) (br_f (nI_nlt (b := i) (a := 256) (by omega) (by omega)) (xl_comp W C (hi_G R0 hG i) (by omega) (xl_apart W C (hi_G R0 hG i) (by omega) (rnd _ i (by omega) ?_))))
    refine br_f (nI_ge (fl i (by omega)) (bd _)) (nm_r (nI_1 i) (ih (i + 1) (by omega)))
theorem xl_18 {post : Int32 → SX → Prop} (W : hp_W n c K L R) (C : hp_C n c K L R A) (hE : ∀ e, e < ne → ∃ h, h < c ∧ E e = nI h) (h8 : ne ≤ 8) (hz : ∀ g, g < 256 → Z g = -1)
    (h : ∃ f, wX_saturate_55 post f 1 0 fN fT fP fp fc (nI ne) fr fs (nI (hp_k (hp_e0 Z A E ne) 256)) K L R M A (hp_e0 Z A E ne) E r0 r1 rc F) :
    ∃ f, wX_saturate_18 post f 0 fN fT fP fp fc (nI ne) fr fs 0 K L R M A Z E r0 r1 rc F := by
  have z0 : nI (hp_k (hp_e0 Z A E 0) 256) = 0 := by
    rw [show hp_e0 Z A E 0 = Z from rfl, hk_00 256 hz]
    rfl
  have go : ∃ f, wX_saturate_18 post f (nI 0) fN fT fP fp fc (nI ne) fr fs (nI (hp_k (hp_e0 Z A E 0) 256)) K L R M A (hp_e0 Z A E 0) E r0 r1 rc F := by
    refine pk_loop (fun f e (_ : Unit) => wX_saturate_18 post f (nI e) fN fT fP fp fc (nI ne) fr fs (nI (hp_k (hp_e0 Z A E e) 256)) K L R M A (hp_e0 Z A E e) E r0 r1 rc F) (fun _ _ => True) ne 0 () (by omega) trivial ?_ ?_
    · intro f s _
      exact br_t (nI_le (Nat.le_refl _) (by omega)) h
    · intro f e s he _ nx
      have nx := nx () trivial
      obtain ⟨h0, x, h1, h2, x1, x2, x3, x4⟩ := he_x W C (hE e he)
      have hG := he_G (Z := Z) W C hE hz e (by omega)
      have hin : vp_in (nI x) 256 := vp_in_nI x1 (by decide)
      have hcl : (nI x).toNatClampNeg = x := nI_clamp (by omega)
      have e1 : hp_e0 Z A E (e + 1) = upd (hp_e0 Z A E e) x 0 := by
        show upd (hp_e0 Z A E e) (hp_i A ((E e).toNatClampNeg * 16)) 0 = _
        rw [x4]
      refine br_f (nI_ge he (by omega)) ⟨vp_in_nI (by omega) (by decide), ?_⟩
      rw [nI_clamp (n := e) (by omega), h2, ha_16, nI_clamp (n := h0 * 16) (by omega), x2]
      refine ⟨vp_in_nI (by omega) (by decide), hin, ?_⟩
      rw [hcl]
      by_cases d : hp_e0 Z A E e x = -1
      · have e2 : hp_k (hp_e0 Z A E (e + 1)) 256 = hp_k (hp_e0 Z A E e) 256 + 1 := by
          rw [e1]
          exact hk_u x1 d (by decide)
        exact br_t d ⟨hin, nm_r (e' := hp_e0 Z A E (e + 1)) e1.symm (nm_r (e' := nI (hp_k (hp_e0 Z A E (e + 1)) 256)) (by rw [e2, nI_1]) (nm_r (nI_1 e) nx))⟩
      · have e2 : hp_e0 Z A E (e + 1) = hp_e0 Z A E e := by
          rw [e1]
          funext y
          by_cases ey : y = x
          · subst ey
            rw [pk_us]
            rcases hG y x1 with a | ⟨_, j, b, e'⟩
            · exact absurd a d
            · have : j = 0 := by omega
              subst this
              exact e'.symm
          · exact pk_un ey
        rw [e2] at nx
        exact br_f d (nm_r (nI_1 e) nx)
  rw [z0] at go
  exact go
end HXS
section HYS
variable {fN fT fP fc fe fr fs fp fk : Int32} {K L R Ym E r0 r1 rc F Yc Yk : Nat → Int32} {A M Z Rk Zf : Nat → Int32} {n c i f nr ne : Nat} {post : Int32 → SY → Prop}
theorem yl_173 (hr : ∀ g, g < 256 → Zf g = -1 ∨ ∃ j, j < 1000 ∧ Zf g = nI j) (h : post (nI (hp_k Zf 256)) (fN, fT, fP, fc, fe, fr, fs, fp, nI (hp_k Zf 256), K, L, R, Ym, E, r0, r1, rc, F, Yc, Zf)) : ∃ f, wY_saturate_173 post fN fT fP fc fe fr fs fp K L R Ym E r0 r1 rc F Yc Zf f 0 0 := by
  refine pk_loop (fun f m (_ : Unit) => wY_saturate_173 post fN fT fP fc fe fr fs fp K L R Ym E r0 r1 rc F Yc Zf f (nI m) (nI (hp_k Zf m))) (fun _ _ => True) 256 0 () (by omega) trivial ?_ ?_
  · intro f s _
    exact br_t (nI_le (a := 256) (b := 256) (by omega) (by decide)) h
  · intro f m s hm _ nx
    have nx := nx () trivial
    refine br_f (nI_ge (b := 256) hm (by decide)) ⟨vp_in_nI hm (by decide), ?_⟩
    rw [nI_clamp (by omega)]
    rcases hr m hm with e | ⟨j, hj, e⟩
    · rw [show hp_k Zf (m + 1) = hp_k Zf m from congrArg (hp_k Zf m + ·) (if_pos e)] at nx
      exact br_t (by rw [e]; decide) (nm_r (nI_1 m) nx)
    · have ne : ¬ Zf m = -1 := by rw [e]; exact ha_ne1 (by omega)
      rw [show hp_k Zf (m + 1) = hp_k Zf m + 1 from congrArg (hp_k Zf m + ·) (if_neg ne)] at nx
      exact br_f (by rw [e]; exact nI_pos (by omega)) (nm_r (nI_1 _) (nm_r (nI_1 m) nx))
theorem yl_101 {J : Int32 → (Nat → Int32) → (Nat → Int32) → (Nat → Int32) → (Nat → Int32) → (Nat → Int32) → (Nat → Int32) → (Nat → Int32) → (Nat → Int32) → (Nat → Int32) → (Nat → Int32) → (Nat → Int32) → Prop}
    (W : hp_W n c K L R) (C : hp_C n c K L R A) (hR : hp_R c nr r0 r1 rc) (h8 : nr ≤ 8) (hG : hp_G A Rk i) (hi : i < 1000)
    (h0 : (∀ x, x < 256 → ¬ (Rk x = -1 ∧ hp_D n nr K L R A r0 r1 rc Rk i x)) → ∃ f, wY_saturate_173 post (nI n) fT fP fc fe (nI nr) fs fp K L R Ym E r0 r1 rc F A (hp_u Rk i (hp_D n nr K L R A r0 r1 rc Rk i)) f 0 0)
    (h1 : (∃ x, x < 256 ∧ Rk x = -1 ∧ hp_D n nr K L R A r0 r1 rc Rk i x) → J (nI (i + 1)) K L R Ym E r0 r1 rc F A (hp_u Rk i (hp_D n nr K L R A r0 r1 rc Rk i))) :
    ∃ f, wY_saturate_101 post J (nI i) (nI n) fT fP fc fe (nI nr) fs fp fk f 0 0 K L R Ym E r0 r1 rc F A Rk := by
  have z0 : hp_u Rk i (fun x => x < 0 ∧ hp_D n nr K L R A r0 r1 rc Rk i x) = Rk := hu_0 (fun g z => absurd z.1 (Nat.not_lt_zero g))
  have z1 : hp_u Rk i (fun x => x < 256 ∧ hp_D n nr K L R A r0 r1 rc Rk i x) = hp_u Rk i (hp_D n nr K L R A r0 r1 rc Rk i) := hu_e (fun g => ⟨fun z => z.2, fun z => ⟨z.1, z⟩⟩)
  have go : ∃ f, wY_saturate_101 post J (nI i) (nI n) fT fP fc fe (nI nr) fs fp fk f 0 (nI 0) K L R Ym E r0 r1 rc F A (hp_u Rk i (fun x => x < 0 ∧ hp_D n nr K L R A r0 r1 rc Rk i x)) := by
    refine pk_loop (fun f g (s : Int32) => wY_saturate_101 post J (nI i) (nI n) fT fP fc fe (nI nr) fs fp fk f s (nI g) K L R Ym E r0 r1 rc F A (hp_u Rk i (fun x => x < g ∧ hp_D n nr K L R A r0 r1 rc Rk i x)))
      (fun g s => (s = 0 ∧ ∀ x, x < g → ¬ (Rk x = -1 ∧ hp_D n nr K L R A r0 r1 rc Rk i x)) ∨ (s = 1 ∧ ∃ x, x < g ∧ Rk x = -1 ∧ hp_D n nr K L R A r0 r1 rc Rk i x)) 256 0 0 (by omega) (Or.inl ⟨rfl, fun q hq => absurd hq (Nat.not_lt_zero q)⟩) ?_ ?_
    · intro f s hs
      refine br_t (nI_le (a := 256) (b := 256) (by omega) (by decide)) ?_
      rw [z1]
      rcases hs with ⟨rfl, z⟩ | ⟨rfl, z⟩
      · exact br_t rfl (h0 z)
      · exact br_f (by decide) (nm_r (nI_1 i) (h1 z))
    · intro f g s hg hs nx
      have hin : vp_in (nI g) 256 := vp_in_nI hg (by decide)
      have hcl : (nI g).toNatClampNeg = g := nI_clamp (by omega)
      have n0 : ¬ (Rk g = -1 ∧ hp_D n nr K L R A r0 r1 rc Rk i g) → ∀ x, x = nI g + 1 → wY_saturate_101 post J (nI i) (nI n) fT fP fc fe (nI nr) fs fp fk f s x K L R Ym E r0 r1 rc F A (hp_u Rk i (fun x => x < g ∧ hp_D n nr K L R A r0 r1 rc Rk i x)) := fun z => by
        have e : hp_u Rk i (fun x => x < g + 1 ∧ hp_D n nr K L R A r0 r1 rc Rk i x) = hp_u Rk i (fun x => x < g ∧ hp_D n nr K L R A r0 r1 rc Rk i x) := by
          funext y
          by_cases ey : y = g
          · subst ey
            by_cases r : Rk y = -1
            · rw [hu_2 (fun q => z ⟨r, q.2⟩), hu_2 (fun q => z ⟨r, q.2⟩)]
            · rw [hu_3 r, hu_3 r]
          · by_cases r : Rk y = -1
            · by_cases q : y < g ∧ hp_D n nr K L R A r0 r1 rc Rk i y
              · rw [hu_1 r ⟨by omega, q.2⟩, hu_1 r q]
              · have q' : ¬ (y < g + 1 ∧ hp_D n nr K L R A r0 r1 rc Rk i y) := fun o => q ⟨by omega, o.2⟩
                rw [hu_2 (D := fun x => x < g + 1 ∧ hp_D n nr K L R A r0 r1 rc Rk i x) q', hu_2 (D := fun x => x < g ∧ hp_D n nr K L R A r0 r1 rc Rk i x) q]
            · rw [hu_3 r, hu_3 r]
        have nx := nx s ?_
        · rw [e] at nx
          exact nm_r (nI_1 g) nx
        · rcases hs with ⟨a, b⟩ | ⟨a, x, b, d⟩
          · exact Or.inl ⟨a, lt_s b z⟩
          · exact Or.inr ⟨a, x, by omega, d⟩
      refine br_f (nI_ge (b := 256) hg (by decide)) ⟨hin, ?_⟩
      rw [hcl]
      by_cases e : A g = nI g
      · refine br_t e ⟨hin, ?_⟩
        rw [hu_2 (g := g) (D := fun x => x < g ∧ hp_D n nr K L R A r0 r1 rc Rk i x) (fun z => Nat.lt_irrefl g z.1)]
        rcases hG g hg with r | ⟨_, j, hj, r⟩
        · refine br_f (by rw [r]; decide) (yl_der W C hR h8 hG hi hg e (fun d => br_f (by decide) ⟨hin, ?_⟩) (fun d => br_t rfl (n0 (fun z => d z.2))))
          have nx := nx 1 (Or.inr ⟨rfl, g, by omega, r, d⟩)
          have e2 : hp_u Rk i (fun x => x < g + 1 ∧ hp_D n nr K L R A r0 r1 rc Rk i x) = upd (hp_u Rk i (fun x => x < g ∧ hp_D n nr K L R A r0 r1 rc Rk i x)) g (nI i + 1) := by
            funext y
            by_cases ey : y = g
            · subst ey
              rw [pk_us, hu_1 r ⟨by omega, d⟩, nI_1]
            · rw [pk_un ey]
              by_cases r' : Rk y = -1
              · by_cases q : y < g ∧ hp_D n nr K L R A r0 r1 rc Rk i y
                · rw [hu_1 r' ⟨by omega, q.2⟩, hu_1 r' q]
                · have q' : ¬ (y < g + 1 ∧ hp_D n nr K L R A r0 r1 rc Rk i y) := fun o => q ⟨by omega, o.2⟩
                  rw [hu_2 (D := fun x => x < g + 1 ∧ hp_D n nr K L R A r0 r1 rc Rk i x) q', hu_2 (D := fun x => x < g ∧ hp_D n nr K L R A r0 r1 rc Rk i x) q]
              · rw [hu_3 r', hu_3 r']
          exact nm_r e2.symm (nm_r (nI_1 g) nx)
        · have nr1 : ¬ Rk g = -1 := by rw [r]; exact ha_ne1 (by omega)
          exact br_t (by rw [r]; exact nI_pos' (by omega)) (n0 (fun z => nr1 z.1))
      · exact br_f e (n0 (fun z => e z.2.2.1))
  rw [z0] at go
  exact go
theorem yl_90 {R0 : Nat → Int32} (W : hp_W n c K L R) (C : hp_C n c K L R A) (hR : hp_R c nr r0 r1 rc) (h8 : nr ≤ 8) (hG : hp_G A R0 0) (hf : f ≤ 256)
    (fe1 : hp_k (hp_it R0 (hp_D n nr K L R A r0 r1 rc) (f + 1)) 256 = hp_k (hp_it R0 (hp_D n nr K L R A r0 r1 rc) f) 256)
    (fl : ∀ j, j < f → hp_k (hp_it R0 (hp_D n nr K L R A r0 r1 rc) j) 256 < hp_k (hp_it R0 (hp_D n nr K L R A r0 r1 rc) (j + 1)) 256)
    (h : post (nI (hp_k (hp_it R0 (hp_D n nr K L R A r0 r1 rc) (f + 1)) 256)) (nI n, fT, fP, fc, fe, nI nr, fs, fp, nI (hp_k (hp_it R0 (hp_D n nr K L R A r0 r1 rc) (f + 1)) 256), K, L, R, Ym, E, r0, r1, rc, F, A, hp_it R0 (hp_D n nr K L R A r0 r1 rc) (f + 1))) :
    ∀ d i, i + d = f → wY_saturate_90 post (nI n) fT fP fc fe (nI nr) fs fp fk (d + 1) (nI i) K L R Ym E r0 r1 rc F A (hp_it R0 (hp_D n nr K L R A r0 r1 rc) i) := by
  have san : ∀ g, g < 256 → hp_it R0 (hp_D n nr K L R A r0 r1 rc) (f + 1) g = -1 ∨ ∃ j, j < 1000 ∧ hp_it R0 (hp_D n nr K L R A r0 r1 rc) (f + 1) g = nI j := fun g hg => by
    rcases hi_G (n := n) (nr := nr) (K := K) (L := L) (R := R) (r0 := r0) (r1 := r1) (rc := rc) R0 hG (f + 1) g hg with a | ⟨_, j, b, e⟩
    · exact Or.inl a
    · exact Or.inr ⟨j, by omega, e⟩
  intro d
  induction d with
  | zero =>
    intro i hi
    have e : i = f := by omega
    subst e
    refine br_f (nI_ge (b := 300) (by omega) (by decide)) (yl_101 W C hR h8 (hi_G R0 hG i) (by omega) (fun _ => yl_173 san h) (fun z => ?_))
    obtain ⟨x, x1, x2⟩ := z
    exact absurd x2 (hs_new (Rk := hp_it R0 (hp_D n nr K L R A r0 r1 rc) i) (D := hp_D n nr K L R A r0 r1 rc (hp_it R0 (hp_D n nr K L R A r0 r1 rc) i) i) (i := i) (by omega) fe1 x x1)
  | succ d ih =>
    intro i hi
    refine br_f (nI_ge (b := 300) (by omega) (by decide)) (yl_101 W C hR h8 (hi_G R0 hG i) (by omega) (fun z => ?_) (fun _ => ih (i + 1) (by omega)))
    have e : hp_it R0 (hp_D n nr K L R A r0 r1 rc) (i + 1) = hp_it R0 (hp_D n nr K L R A r0 r1 rc) i := hs_no z (fun g d => d.1)
    have := fl i (by omega)
    rw [e] at this
    omega
theorem yl_44 (W : hp_W n c K L R) (C : hp_C n c K L R A) (hE : ∀ e, e < ne → ∃ h, h < c ∧ E e = nI h) (h8 : ne ≤ 8)
    (h : ∃ f, wY_saturate_90 post fN fT fP fc (nI ne) fr fs fp fk f 0 K L R Ym E r0 r1 rc F A (hp_e0 Z A E ne)) : ∃ f, wY_saturate_44 post fN fT fP fc (nI ne) fr fs fp fk f 0 K L R Ym E r0 r1 rc F A Z := by
  refine pk_loop (fun f e (_ : Unit) => wY_saturate_44 post fN fT fP fc (nI ne) fr fs fp fk f (nI e) K L R Ym E r0 r1 rc F A (hp_e0 Z A E e)) (fun _ _ => True) ne 0 () (by omega) trivial ?_ ?_
  · intro f s _
    exact br_t (nI_le (Nat.le_refl _) (by omega)) h
  · intro f e s he _ nx
    have nx := nx () trivial
    obtain ⟨h0, x, h1, h2, x1, x2, x3, x4⟩ := he_x W C (hE e he)
    have e1 : hp_e0 Z A E (e + 1) = upd (hp_e0 Z A E e) (nI x).toNatClampNeg 0 := by
      show upd (hp_e0 Z A E e) (hp_i A ((E e).toNatClampNeg * 16)) 0 = _
      rw [x4, nI_clamp (by omega)]
    refine br_f (nI_ge he (by omega)) ⟨vp_in_nI (by omega) (by decide), ?_⟩
    rw [nI_clamp (n := e) (by omega), h2, ha_16, ha_a255 (by omega), nI_clamp (n := h0 * 16) (by omega), x2]
    exact ⟨vp_in_nI (by omega) (by decide), nm_e (br_f (nI_pos (by omega)) ⟨vp_in_nI x1 (by decide), nm_r e1.symm (nm_r (nI_1 e) nx)⟩)⟩
theorem yl_22 (hz : ∀ g, g < 256 → Z g = -1) (hzt : ∀ g, 256 ≤ g → Z g = 0) (hk : ∀ g, 256 ≤ g → Yk g = 0)
    (h : ∃ f, wY_saturate_44 post fN fT fP fc fe fr fs fp fk f 0 K L R Ym E r0 r1 rc F A Z) : ∃ f, wY_saturate_22 post fN fT fP fc fe fr fs fp fk f 0 K L R Ym E r0 r1 rc F A Yk := by
  refine pk_loop (fun f m s => wY_saturate_22 post fN fT fP fc fe fr fs fp fk f (nI m) K L R Ym E r0 r1 rc F A s) (fun m s => (∀ g, g < m → s g = -1) ∧ ∀ g, 256 ≤ g → s g = 0) 256 0 Yk (by omega) ⟨fun x hx => absurd hx (Nat.not_lt_zero x), hk⟩ ?_ ?_
  · intro f s hs
    have e : s = Z := funext fun x => by
      by_cases hx : x < 256
      · rw [hs.1 x hx, hz x hx]
      · rw [hs.2 x (by omega), hzt x (by omega)]
    subst e
    exact br_t (nI_le (a := 256) (b := 256) (by omega) (by decide)) h
  · intro f m s hm hs nx
    refine br_f (nI_ge (b := 256) hm (by decide)) ⟨vp_in_nI hm (by decide), nm_r (e' := upd s m (-1)) (by rw [nI_clamp (by omega)]) (nm_r (nI_1 m) (nx _ ⟨fun x hx => ?_, fun x hx => ?_⟩))⟩
    · by_cases e : x = m
      · subst e
        exact pk_us
      · rw [pk_un e]
        exact hs.1 x (by omega)
    · rw [pk_un (by omega)]
      exact hs.2 x hx
end HYS
theorem i_vc_saturate {k : Nat} {u : SX} {v : SY} (I : i_Rel k u v) (hk : k + 5 ≤ 2563) : wpX_saturate (fun r u' => wpY_saturate (fun r' v' => r' = r ∧ i_Rel (k + 5) u' v') v) u := by
  have I' := I
  obtain ⟨n, tm, pm, c, ne, nr, ns, ph, kn, K, L, R, M, A, Z, E, r0, r1, rc, F, Ym, Yc, Yk, rfl, rfl, J⟩ := I
  obtain ⟨b1, b2, b3, b4, b5, b6, b7, b8⟩ := hj_b J
  have W := J.1.1
  have C := J.2.1.1
  have hE := J.2.2.1.1
  have hR := J.2.2.1.2.1
  rcases J.2.2.2.2 with ⟨p, ns0, kn0, z1, z2, z3⟩ | ⟨p, _⟩
  · have q : ¬ ph = 1 := by rw [p]; decide
    obtain ⟨f, f1, f2, f3⟩ := hp_stop (hp_e0 Z A E ne) (hp_D n nr K L R A r0 r1 rc) (fun Rk i g d => d.1)
    have hG := he_G (Z := Z) W C hE z1 ne (Nat.le_refl _)
    subst kn0
    refine br_f q ?_
    refine xl_18 W C hE b6 z1 ⟨_, xl_55 W C hR b7 hG f1 f2 f3 ?_ f 0 (by omega)⟩
    refine br_f q (yj_ref J ?_)
    refine yl_22 z1 z2 z3 (yl_44 W C hE b6 ⟨_, yl_90 W C hR b7 hG f1 f2 f3 ?_ f 0 (by omega)⟩)
    refine ⟨rfl, hj_mk ⟨J.1, J.2.1, J.2.2.1, ⟨J.2.1.2.1, J.2.1.2.2.2⟩, Or.inr ⟨rfl, rfl, fun g hg => ?_⟩⟩⟩
    rcases hi_G (n := n) (nr := nr) (K := K) (L := L) (R := R) (r0 := r0) (r1 := r1) (rc := rc) _ hG (f + 1) g hg with a | ⟨_, j, b, e⟩
    · exact Or.inl a
    · exact Or.inr ⟨j, by omega, e⟩
  · exact br_t p (br_t p ⟨rfl, I'⟩)
end
