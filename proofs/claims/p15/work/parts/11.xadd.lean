/-! X's addTerm -/
section HXA
variable {fN fT fP fp fc fe fr fs fk : Int32} {K L R M A Z E r0 r1 rc F : Nat → Int32} {n c : Nat}
theorem hr_5 {u v v' r : Int32} (h : hp_r K L R A 5 u v r) : hp_r K L R A 5 u v' r := by
  have e : ∀ g, hp_q K L R A 5 u v g ↔ hp_q K L R A 5 u v' g := fun g => ⟨fun z => ⟨z.1, z.2.1, z.2.2.1, Or.inl rfl⟩, fun z => ⟨z.1, z.2.1, z.2.2.1, Or.inl rfl⟩⟩
  rcases h with ⟨g, a, b, d, f⟩ | ⟨a, b⟩
  · exact Or.inl ⟨g, a, b, (e g).mp d, fun q hq z => f q hq ((e q).mpr z)⟩
  · exact Or.inr ⟨a, fun q hq z => b q hq ((e q).mpr z)⟩
theorem xi_inst {post : Int32 → Prop} {vx vy m : Nat} (W : hp_W n (c + 1) K L R) (hm : m = c * 16 + (4 * vy + vx)) (hx : vx < n) (hy : vy < n)
    (C : ∀ p, p < m → hp_Q n (c + 1) K L R A p) (hz : ∀ p, m ≤ p → p < 256 → A p = -1)
    (h : ∀ q, q ≤ m → hp_V n (q % 16) → hp_S K L R A m q → (∀ q', q' < q → hp_V n (q' % 16) → ¬ hp_S K L R A m q') → post (nI q)) :
    wpX_instanceId post (fN, fT, fP, fp, fc, fe, fr, fs, fk, K, L, R, M, A, Z, E, r0, r1, rc, F) (nI c) (nI vx) (nI vy) := by
  have w := W.2.2.1
  have w4 := W.2.1
  have m1 : m / 16 = c := by omega
  have m2 : m % 16 = 4 * vy + vx := by omega
  have hV : hp_V n (m % 16) := by
    rw [m2]
    exact ⟨by omega, by omega⟩
  have ec : (nI c).toNatClampNeg = c := nI_clamp (by omega)
  have hin : vp_in (nI c) 16 := vp_in_nI (by omega) (by decide)
  have hv : ∀ g, g < 256 → A g = nI g → g / 16 < c + 1 := fun g hg e => by
    by_cases hgm : g < m
    · omega
    · have := hz g (by omega) hg
      rw [e] at this
      exact absurd this (ha_ne1 (by omega))
  have hat : hp_a K m → post (nI (16 * hp_n K L m)) := fun ha => by
    obtain ⟨a1, a2, a3, a4⟩ := hq_a (A := A) W (by omega) hV ha
    exact h _ a1 a2 a3 a4
  refine ⟨hin, ?_⟩
  rw [ec]
  refine nm_e ?_
  by_cases k0 : K c = 0
  · refine br_t k0 ?_
    have en : hp_n K L m = c := by
      unfold hp_n
      rw [m1, if_pos k0]
    have := hat (Or.inl (by rw [m1]; exact k0))
    rw [en, Nat.mul_comm] at this
    rw [ha_16]
    exact this
  · refine br_f k0 ?_
    by_cases k1 : K c = 1
    · refine br_t k1 ⟨hin, ?_⟩
      have := hat (Or.inr (by rw [m1]; exact k1))
      by_cases l0 : L c = 0
      · refine br_t l0 ?_
        have en : hp_n K L m = vx := by
          unfold hp_n
          rw [m1, if_neg k0, if_pos l0]
          omega
        rw [en, Nat.mul_comm] at this
        rw [ha_16]
        exact this
      · refine br_f l0 ?_
        have en : hp_n K L m = vy := by
          unfold hp_n
          rw [m1, if_neg k0, if_neg l0]
          omega
        rw [en, Nat.mul_comm] at this
        rw [ha_16]
        exact this
    · have na : ¬ hp_a K m := by
        unfold hp_a
        rw [m1]
        exact fun z => z.elim k0 k1
      have ex : nI vx + 4 * nI vy = nI (m % 16) := by
        rw [ha_4, nI_add, m2]
        exact congrArg nI (by omega)
      have em : nI c * 16 + nI (m % 16) = nI m := by
        rw [ha_16, nI_add]
        exact congrArg nI (by omega)
      obtain ⟨l, hl, el, ell⟩ := hw_lp W (p := m) (by omega) na
      have el' : nI l * 16 + nI (m % 16) = nI (hp_l L m) := by
        rw [ha_16, nI_add, ell]
      rw [m1] at el
      refine br_f k1 (nm_r ex ?_)
      rw [el, el', nI_clamp (n := hp_l L m) (by omega)]
      refine ⟨hin, vp_in_nI (by omega) (by decide), nm_e ?_⟩
      have fin : ∀ r, hp_r K L R A (K c) (A (hp_l L m)) (A (hp_l R m)) r → (r = -1 → post (nI c * 16 + nI (m % 16))) ∧ (¬ r = -1 → post r) := fun r hr => by
        rw [← m1] at hr
        rcases hr with ⟨g, h1, h2, h3, h4⟩ | ⟨h1, h2⟩
        · obtain ⟨b1, b2, b3, b4⟩ := hq_f C hz (by omega) na h1 h3 h4
          refine br_f (by rw [h2]; exact ha_ne1 (by omega)) ?_
          rw [h2]
          exact h g b1 b2 b3 b4
        · refine br_t h1 ?_
          rw [em]
          exact h m (Nat.le_refl _) hV hs_r (hq_0 C (by omega) (by omega) na h2)
      have nk : ¬ (K c = 0 ∨ K c = 1) := fun z => z.elim k0 k1
      by_cases k5 : K c = 5
      · refine br_t k5 ?_
        obtain ⟨r, hr⟩ := hr_ex (K := K) (L := L) (R := R) (A := A) (K c) (A (hp_l L m)) (-1)
        refine xi_find W hv nk (fun _ => rfl) hr (fin r ?_)
        rw [k5] at hr ⊢
        exact hr_5 hr
      · obtain ⟨l', hl', er, err⟩ := hw_rp W (p := m) (by omega) na (by rw [m1]; exact k5)
        have er' : nI l' * 16 + nI (m % 16) = nI (hp_l R m) := by
          rw [ha_16, nI_add, err]
        rw [m1] at er
        refine br_f k5 ?_
        rw [er, er', nI_clamp (n := hp_l R m) (by omega)]
        obtain ⟨r, hr⟩ := hr_ex (K := K) (L := L) (R := R) (A := A) (K c) (A (hp_l L m)) (A (hp_l R m))
        exact ⟨hin, vp_in_nI (by omega) (by decide), xi_find W hv nk (fun z => absurd z k5) hr (fin r hr)⟩
def hp_P (n c : Nat) (K L R A : Nat → Int32) (m : Nat) : Prop := (∀ p, p < m → hp_Q n c K L R A p) ∧ (∀ p, m ≤ p → p < 256 → A p = -1) ∧ ∀ p, 256 ≤ p → A p = 0
theorem xi_add67 {post : Int32 → St2 → Prop} {J : Int32 → (Nat → Int32) → (Nat → Int32) → (Nat → Int32) → (Nat → Int32) → (Nat → Int32) → (Nat → Int32) → (Nat → Int32) → (Nat → Int32) → (Nat → Int32) → (Nat → Int32) → (Nat → Int32) → Prop} {vy : Nat}
    (W : hp_W n (c + 1) K L R) (hy : vy < n) (hP : hp_P n (c + 1) K L R A (c * 16 + 4 * vy))
    (hJ : ∀ A', hp_P n (c + 1) K L R A' (c * 16 + 4 * (vy + 1)) → J (nI (vy + 1)) K L R M A' Z E r0 r1 rc F) :
    ∃ n67, wX_addTerm_67 post J (nI c) (nI vy) (nI n) fT fP fp fc fe fr fs fk n67 0 K L R M A Z E r0 r1 rc F := by
  have w := W.2.2.1
  have w4 := W.2.1
  refine pk_loop (fun f i s => wX_addTerm_67 post J (nI c) (nI vy) (nI n) fT fP fp fc fe fr fs fk f (nI i) K L R M s Z E r0 r1 rc F) (fun i s => hp_P n (c + 1) K L R s (c * 16 + (4 * vy + i))) n 0 A (by omega) hP ?_ ?_
  · intro f s hs
    refine br_t (nI_le (Nat.le_refl _) (by omega)) (nm_r (nI_1 vy) (hJ s ⟨?_, fun p h1 h2 => hs.2.1 p (by omega) h2, hs.2.2⟩))
    exact hq_k hs.1 hs.2.1 (by omega) (by omega) (fun p h1 h2 z => by have := z.1; omega)
  · intro f i s hi hs nx
    have em : nI c * 16 + nI i + 4 * nI vy = nI (c * 16 + (4 * vy + i)) := by
      rw [ha_16, ha_4, nI_add, nI_add]
      exact congrArg nI (by omega)
    refine br_f (nI_ge hi (by omega)) (nm_r em (xi_inst W rfl hi hy hs.1 hs.2.1 ?_))
    intro q h1 h2 h3 h4
    refine ⟨vp_in_nI (by omega) (by decide), ?_⟩
    rw [nI_clamp (by omega)]
    refine nm_e (nm_r (nI_1 i) (nx _ ⟨?_, ?_, ?_⟩))
    · have m2 : (c * 16 + (4 * vy + i)) % 16 = 4 * vy + i := by omega
      have hh := hq_s (m := c * 16 + (4 * vy + i)) W hs.1 (by omega) h1 h2 h3 h4 (by rw [m2]; exact ⟨by omega, by omega⟩)
      exact hh
    · intro p g1 g2
      rw [pk_un (by omega)]
      exact hs.2.1 p (by omega) g2
    · intro p g1
      rw [pk_un (by omega)]
      exact hs.2.2 p g1
theorem xi_add55 {post : Int32 → St2 → Prop} (W : hp_W n (c + 1) K L R) (hP : hp_P n (c + 1) K L R A (c * 16))
    (h : ∀ A', hp_C n (c + 1) K L R A' → (∀ p, 256 ≤ p → A' p = 0) → post (nI c) (nI n, fT, fP, fp, fc, fe, fr, fs, fk, K, L, R, M, A', Z, E, r0, r1, rc, F)) :
    ∃ n55, wX_addTerm_55 post (nI c) (nI n) fT fP fp fc fe fr fs fk n55 0 K L R M A Z E r0 r1 rc F := by
  have w := W.2.2.1
  have w4 := W.2.1
  refine pk_loop (fun f i s => wX_addTerm_55 post (nI c) (nI n) fT fP fp fc fe fr fs fk f (nI i) K L R M s Z E r0 r1 rc F) (fun i s => hp_P n (c + 1) K L R s (c * 16 + 4 * i)) n 0 A (by omega) hP ?_ ?_
  · intro f s hs
    refine br_t (nI_le (Nat.le_refl _) (by omega)) (h s (hq_z (by omega) (hq_k hs.1 hs.2.1 (by omega) (by omega) (fun p h1 h2 z => by have := z.2; omega)) (fun p h1 h2 => hs.2.1 p (by omega) h2)) hs.2.2)
  · intro f i s hi hs nx
    exact br_f (nI_ge hi (by omega)) (xi_add67 W hi hs (fun A' h' => nx A' h'))
theorem xi_vars {post : Int32 → Prop} {k a b v : Int32} (hc : c < 16) (h : hp_N n c k a b) {K' L' R' : Nat → Int32} (e1 : K' c = k) (e2 : L' c = a) (e3 : R' c = b) (hv : v = hp_mv (c + 1) K' L' R' M c) (hp : post v) : wpX_varsOf post (fN, fT, fP, fp, fc, fe, fr, fs, fk, K, L, R, M, A, Z, E, r0, r1, rc, F) k a b := by
  unfold hp_mv at hv
  rw [e1, e2, e3] at hv
  have c1 : ¬ c + 1 ≤ c := by omega
  by_cases k0 : k = 0
  · rw [if_pos (Or.inr k0)] at hv
    refine br_t k0 ?_
    rw [← hv]; exact hp
  · rw [if_neg (fun z => z.elim c1 k0)] at hv
    refine br_f k0 ?_
    rcases h with h | ⟨_, h | h | h⟩
    · exact absurd h.2.1 k0
    · obtain ⟨rfl, ha, _⟩ := h
      rw [if_pos rfl] at hv
      refine br_t rfl ?_
      rcases ha with rfl | rfl
      · rw [if_pos rfl] at hv
        rw [show (1 : Int32) <<< ((0 : Int32) &&& 31) = 1 by decide, ← hv]; exact hp
      · rw [if_neg (by decide)] at hv
        rw [show (1 : Int32) <<< ((1 : Int32) &&& 31) = 2 by decide, ← hv]; exact hp
    · obtain ⟨rfl, ⟨l, hl, rfl⟩, _⟩ := h
      rw [if_neg (by decide), if_pos rfl] at hv
      refine br_f (by decide) (br_t rfl ⟨vp_in_nI (by omega) (by decide), ?_⟩)
      rw [← hv]; exact hp
    · obtain ⟨hk, ⟨l, hl, rfl⟩, ⟨r, hr, rfl⟩⟩ := h
      have k1 : ¬ k = 1 := by rcases hk with rfl | rfl | rfl <;> decide
      have k5 : ¬ k = 5 := by rcases hk with rfl | rfl | rfl <;> decide
      rw [if_neg k1, if_neg k5] at hv
      refine br_f k1 (br_f k5 ⟨vp_in_nI (by omega) (by decide), vp_in_nI (by omega) (by decide), ?_⟩)
      rw [← hv]; exact hp
theorem xi_add {post : Int32 → St2 → Prop} {k a b : Int32} (W : hp_W n c K L R) (hc : c < 16) (hN : hp_N n c k a b) (C : hp_C n c K L R A) (hA : ∀ p, 256 ≤ p → A p = 0) (hM : hp_M c K L R M) (hMt : ∀ p, 16 ≤ p → M p = 0)
    (h : ∀ A' M', hp_C n (c + 1) (upd K c k) (upd L c a) (upd R c b) A' → (∀ p, 256 ≤ p → A' p = 0) → hp_M (c + 1) (upd K c k) (upd L c a) (upd R c b) M' → (∀ p, 16 ≤ p → M' p = 0) → post (nI c) (nI n, fT, fP, fp, nI (c + 1), fe, fr, fs, fk, upd K c k, upd L c a, upd R c b, M', A', Z, E, r0, r1, rc, F)) :
    wpX_addTerm post (nI n, fT, fP, fp, nI c, fe, fr, fs, fk, K, L, R, M, A, Z, E, r0, r1, rc, F) k a b := by
  have hin : vp_in (nI c) 16 := vp_in_nI hc (by decide)
  have ec : (nI c).toNatClampNeg = c := nI_clamp (by omega)
  refine ⟨hin, nm_r (e' := upd K c k) (by rw [ec]) ⟨hin, nm_r (e' := upd L c a) (by rw [ec]) ⟨hin, nm_r (e' := upd R c b) (by rw [ec]) (xi_vars (K' := upd K c k) (L' := upd L c a) (R' := upd R c b) hc hN pk_us pk_us pk_us rfl ⟨hin, ?_⟩)⟩⟩⟩
  rw [ec]
  refine nm_e (nm_r (nI_1 c) (xi_add55 (hw_x W hc hN) ⟨hq_x W C, hq_y W C, hA⟩ (fun A' h1 h2 => h A' _ h1 h2 (hm_x W hc hN hM rfl) ?_)))
  intro p hp
  rw [pk_un (by omega)]
  exact hMt p hp
end HXA
