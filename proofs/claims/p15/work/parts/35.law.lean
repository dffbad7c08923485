/-! the law -/
section HLW
variable {n c ne nr ns : Nat} {ph kn : Int32} {K L R M A Z E r0 r1 rc F : Nat → Int32} {post : Int32 → Prop} {Lx : Nat} {xs : Nat → Int32} {kc ks : Nat}
theorem lz_377 {k w : Nat} (J : hx_J n c ne nr ns ph kn K L R M A Z E r0 r1 rc F) (p1 : ph = 1) (hp : post 1) (hL : Lx ≤ 260) (hk : k ≤ 400) (n0 : ns = 0) (hw : w < 256) (ew : A w = nI w) :
    ∃ f, wL_law_377 post Lx xs (nI n) (nI k) (nI c) (nI (hp_k Z 256)) (Z w) (nI w) kc ks (nI n) 16 32 ph (nI c) (nI ne) (nI nr) (nI ns) kn K L R M A Z E r0 r1 rc F f 0 0 0 := by
  obtain ⟨b1, b2, b3, b4, b5, b6, b7⟩ := hj_b J
  have C := J.2.1.1
  obtain ⟨_, hY, _, _⟩ := J.2.2.2.resolve_left (fun z => absurd (p1.symm.trans z.1) (by decide))
  have dec : Z w = -1 ∨ ∃ t, t < 300 ∧ Z w = nI t := by
    rcases hY.1 w hw with z | ⟨_, j, b, z⟩
    · exact Or.inl z
    · exact Or.inr ⟨j, by omega, z⟩
  refine pk_loop (fun f g (_ : Unit) => wL_law_377 post Lx xs (nI n) (nI k) (nI c) (nI (hp_k Z 256)) (Z w) (nI w) kc ks (nI n) 16 32 ph (nI c) (nI ne) (nI nr) (nI ns) kn K L R M A Z E r0 r1 rc F f (nI (hp_k Z g)) (nI (hp_cn (fun x => ∃ t, t < 300 ∧ Z w = nI t ∧ hp_H Z t x) g)) (nI g)) (fun _ _ => True) 256 0 () (by omega) trivial ?_ ?_
  · intro f s _
    refine br_t (nI_le (a := 256) (b := 256) (by omega) (by decide)) (br_t rfl ?_)
    rcases dec with z | ⟨t, ht, z⟩
    · exact br_t (by rw [z]; decide) (lt_1486 J p1 hp hL hk)
    · have hm := hc_m (P := fun x => ∃ t, t < 300 ∧ Z w = nI t ∧ hp_H Z t x) 256
      refine br_f (by rw [z]; exact nI_pos (by omega)) ?_
      by_cases h32 : 32 < hp_cn (fun x => ∃ t, t < 300 ∧ Z w = nI t ∧ hp_H Z t x) 256
      · exact br_t (nI_lt (a := 32) h32 (by omega)) (lt_1486 J p1 hp hL hk)
      · refine br_f (nI_nlt (a := 32) (by omega) (by omega)) ?_
        have e : hp_cn (fun x => ∃ t, t < 300 ∧ Z w = nI t ∧ hp_H Z t x) 256 = hp_cn (hp_H Z t) 256 := hc_eq (fun x => ⟨fun ⟨t', h1, h2, h3⟩ => by
          have : t' = t := ha_eq (h2.symm.trans z) (by omega) (by omega)
          rw [← this]; exact h3, fun y => ⟨t, ht, z, y⟩⟩) 256
        rw [e] at h32 ⊢
        rw [z]
        exact ll_507 J p1 hp hL hk ht (by omega) n0 hw ew z
  · intro f g s hg _ nx
    have nx := nx () trivial
    have n0 : Z g = -1 → ∀ x, x = nI g + 1 → wL_law_377 post Lx xs (nI n) (nI k) (nI c) (nI (hp_k Z 256)) (Z w) (nI w) kc ks (nI n) 16 32 ph (nI c) (nI ne) (nI nr) (nI ns) kn K L R M A Z E r0 r1 rc F f (nI (hp_k Z g)) (nI (hp_cn (fun x => ∃ t, t < 300 ∧ Z w = nI t ∧ hp_H Z t x) g)) x := fun z => by
      rw [show hp_k Z (g + 1) = hp_k Z g from congrArg (hp_k Z g + ·) (if_pos z), hc_f (by
        rintro ⟨t, h1, _, j, h3, h4⟩
        rw [z] at h4
        exact ha_ne1 (by omega) h4.symm)] at nx
      exact nm_r (nI_1 g) nx
    have val : ¬ Z g = -1 → A g = nI g := fun z => by
      rcases hY.1 g hg with a | a
      · exact absurd a z
      · exact a.1
    have bad : ¬ A g = nI g → Z g = -1 := fun z => Classical.byContradiction (fun y => z (val y))
    refine br_f (nI_ge (b := 256) hg (by decide)) (nm_r (ha_s4 (by omega)) (nm_r (ha_a3 (by omega)) (nm_r (ha_s24 (by omega)) ?_)))
    by_cases v0 : c ≤ g / 16
    · exact br_t (nI_le v0 (by omega)) (n0 (bad (fun z => by have := (hc_g C hg z).1; omega)))
    · refine br_f (nI_ge (by omega) (by omega)) ?_
      by_cases v1 : n ≤ g % 4
      · exact br_t (nI_le v1 (by omega)) (n0 (bad (fun z => by have := (hc_g C hg z).2.1; omega)))
      · refine br_f (nI_ge (by omega) (by omega)) ?_
        by_cases v2 : n ≤ g / 4 % 4
        · exact br_t (nI_le v2 (by omega)) (n0 (bad (fun z => by have := (hc_g C hg z).2.2; omega)))
        · have hV : hp_V n (g % 16) := ⟨by omega, by omega⟩
          refine br_f (nI_ge (by omega) (by omega)) (lg_p J (by omega) hV ?_)
          by_cases e : A g = nI g
          · refine br_t e (lr_1 J p1 (by omega) (by omega) (by omega) (w := g) (by rw [show g / 16 * 16 + (4 * (g / 4 % 4) + g % 4) = g by omega]; exact e) hg ?_)
            rcases hY.1 g hg with z | ⟨_, j, hj, z⟩
            · have zl : Z g < 0 := by rw [z]; decide
              exact br_t zl (br_t zl (n0 z))
            · have zl : ¬ Z g < 0 := by rw [z]; exact nI_pos (by omega)
              have zn : ¬ Z g = -1 := by rw [z]; exact ha_ne1 (by omega)
              rw [show hp_k Z (g + 1) = hp_k Z g + 1 from congrArg (hp_k Z g + ·) (if_neg zn)] at nx
              refine br_f zl (nm_r (nI_1 _) (br_f zl ?_))
              by_cases m : ∃ t, t < 300 ∧ Z w = nI t ∧ hp_H Z t g
              · rw [hc_t (P := fun x => ∃ t, t < 300 ∧ Z w = nI t ∧ hp_H Z t x) m] at nx
                obtain ⟨t, h1, h2, j', h3, h4⟩ := m
                have ej : j = j' := ha_eq (z.symm.trans h4) (by omega) (by omega)
                exact br_f (by rw [h2, z]; exact nI_nlt (by omega) (by omega)) (nm_r (nI_1 _) (nm_r (nI_1 g) nx))
              · rw [hc_f (P := fun x => ∃ t, t < 300 ∧ Z w = nI t ∧ hp_H Z t x) m] at nx
                refine br_t ?_ (nm_r (nI_1 g) nx)
                rcases dec with y | ⟨t, ht, y⟩
                · rw [y, z]
                  exact Int32.lt_of_lt_of_le (by decide) (nI_pos' (by omega))
                · rw [y, z]
                  refine nI_lt ?_ (by omega)
                  exact Nat.lt_of_not_le (fun q => m ⟨t, ht, y, j, q, z⟩)
          · exact br_f e (n0 (bad e))
theorem lz_209 {k rl : Nat} (J : hx_J n c ne nr ns ph kn K L R M A Z E r0 r1 rc F) (p : ph = 0) (hp : post 1) (hL : Lx ≤ 260) (hk : k ≤ 200) (hr : rl < 5) : ∃ f, wL_law_209 post Lx xs (nI n) (nI c) (nI rl) kc ks f (nI k) 0 (nI n) 16 32 ph (nI c) (nI ne) (nI nr) (nI ns) kn K L R M A Z E r0 r1 rc F := by
  refine pk_loop (fun f i (s : Nat × (Nat → Int32) × (Nat → Int32) × (Nat → Int32)) => wL_law_209 post Lx xs (nI n) (nI c) (nI rl) kc ks f (nI (k + 3 * i)) (nI i) (nI n) 16 32 ph (nI c) (nI ne) (nI s.1) (nI ns) kn K L R M A Z E (s.2.1) (s.2.2.1) (s.2.2.2) F)
    (fun _ s => hx_J n c ne s.1 ns ph kn K L R M A Z E s.2.1 s.2.2.1 s.2.2.2 F) rl 0 (nr, r0, r1, rc) (by omega) J ?_ ?_
  · intro f s hs
    obtain ⟨b1, b2, b3, b4, b5, b6, b7⟩ := hj_b hs
    refine br_t (nI_le (Nat.le_refl _) (by omega)) (lx_sat hs p (fun Z J' => lc_6 rfl (br_t rfl ?_)))
    refine nm_r (nI_1 _) (lq_cell (by omega) hL (fun v1 => lq_md (by omega) (by omega) (fun th hth => nm_r (nI_1 _) (lq_cell (by omega) hL (fun v2 => lq_md (by omega) (by omega) (fun tx htx => nm_r (nI_1 _) (lq_cell (by omega) hL (fun v3 => lq_md (by omega) (by omega) (fun ty hty => ?_)))))))))
    have e2 : (th * 16 + (4 * ty + tx)) % 16 = 4 * ty + tx := by omega
    obtain ⟨w, w1, w2, w3, _⟩ := hc_p hs.1.1 hs.2.1.1 (t := th * 16 + (4 * ty + tx)) ⟨by omega, by rw [e2]; exact ⟨by omega, by omega⟩⟩
    refine lr_1 J' rfl hth htx hty w2 w1 (xg_id b3 b1 hth htx hty ?_)
    rw [w2]
    exact lz_377 J' rfl hp hL (by omega) rfl w1 w3
  · intro f i s hi hs nx
    obtain ⟨b1, b2, b3, b4, b5, b6, b7⟩ := hj_b hs
    have pr : ∀ a, a < c + 1 → (nI a - 1 = -1 ∨ ∃ h, h < c ∧ nI a - 1 = nI h) := fun a ha => by
      by_cases e : a = 0
      · subst e
        exact Or.inl (by decide)
      · exact Or.inr ⟨a - 1, by omega, pk_sub (b := 1) (by omega)⟩
    refine br_f (nI_ge hi (by omega)) (nm_r (nI_1 _) (lq_cell (by omega) hL (fun v1 => ?_)))
    rw [nI_1 c]
    refine lq_md (by omega) (by omega) (fun a ha => nm_e (nm_r (nI_1 _) (lq_cell (by omega) hL (fun v2 => lq_md (by omega) (by omega) (fun b hb => nm_e (nm_r (nI_1 _) (lq_cell (by omega) hL (fun v3 => lq_md (by omega) (by omega) (fun d hd => ?_)))))))))
    exact lx_rule hs p hd (pr a ha) (pr b hb) (fun r nr' r0' r1' rc' J' => nm_r (nI_1 i) (nx (nr', r0', r1', rc') J'))
theorem lz_161 {k q : Nat} (J : hx_J n c ne nr ns ph kn K L R M A Z E r0 r1 rc F) (p : ph = 0) (hp : post 1) (hL : Lx ≤ 260) (hk : k ≤ 100) (hq : q < 5) : ∃ f, wL_law_161 post Lx xs (nI n) (nI c) (nI q) kc ks f (nI k) 0 (nI n) 16 32 ph (nI c) (nI ne) (nI nr) (nI ns) kn K L R M A Z E r0 r1 rc F := by
  refine pk_loop (fun f i (s : Nat × (Nat → Int32)) => wL_law_161 post Lx xs (nI n) (nI c) (nI q) kc ks f (nI (k + i)) (nI i) (nI n) 16 32 ph (nI c) (nI s.1) (nI nr) (nI ns) kn K L R M A Z (s.2) r0 r1 rc F)
    (fun _ s => hx_J n c s.1 nr ns ph kn K L R M A Z s.2 r0 r1 rc F) q 0 (ne, E) (by omega) J ?_ ?_
  · intro f s hs
    exact br_t (nI_le (Nat.le_refl _) (by omega)) (nm_r (nI_1 _) (lq_cell (by omega) hL (fun v => lq_md (d := 5) (by omega) (by omega) (fun r hr => lz_209 hs p hp hL (by omega) hr))))
  · intro f i s hi hs nx
    obtain ⟨b1, b2, b3, b4, b5, b6, b7⟩ := hj_b hs
    exact br_f (nI_ge hi (by omega)) (nm_r (nI_1 _) (lq_cell (by omega) hL (fun v => lq_md (by omega) (by omega) (fun j hj => lx_know hs p hj (fun r ne' E' J' => nm_r (nI_1 i) (nx (ne', E') J'))))))
theorem lz_45 {q : Nat} (J : hx_J n c ne nr ns ph kn K L R M A Z E r0 r1 rc F) (p : ph = 0) (hp : post 1) (hL : Lx ≤ 260) (hq : q < 13) : ∃ f, wL_law_45 post Lx xs (nI n) (nI q) kc ks f (nI 2) 0 (nI n) 16 32 ph (nI c) (nI ne) (nI nr) (nI ns) kn K L R M A Z E r0 r1 rc F := by
  refine pk_loop (fun f i (s : Nat × (Nat → Int32) × (Nat → Int32) × (Nat → Int32) × (Nat → Int32) × (Nat → Int32)) => wL_law_45 post Lx xs (nI n) (nI q) kc ks f (nI (2 + 3 * i)) (nI i) (nI n) 16 32 ph (nI s.1) (nI ne) (nI nr) (nI ns) kn (s.2.1) (s.2.2.1) (s.2.2.2.1) (s.2.2.2.2.1) (s.2.2.2.2.2) Z E r0 r1 rc F)
    (fun _ s => hx_J n s.1 ne nr ns ph kn s.2.1 s.2.2.1 s.2.2.2.1 s.2.2.2.2.1 s.2.2.2.2.2 Z E r0 r1 rc F) q 0 (c, K, L, R, M, A) (by omega) J ?_ ?_
  · intro f s hs
    refine br_t (nI_le (Nat.le_refl _) (by omega)) (lc_0 (nm_r (nI_1 _) (lq_cell (by omega) hL (fun v => lq_md (d := 4) (by omega) (by omega) (fun r hr => nm_r (nI_add 1 r) (lz_161 hs p hp hL (by omega) (by omega)))))))
  · intro f i s hi hs nx
    obtain ⟨b1, b2, b3, b4, b5, b6, b7⟩ := hj_b hs
    refine br_f (nI_ge hi (by omega)) (nm_r (nI_1 _) (lq_cell (by omega) hL (fun v1 => lq_md (d := 5) (by omega) (by omega) (fun a ha => nm_r (nI_add 1 a) (lc_0 (nm_r (nI_1 _) (lq_cell (by omega) hL (fun v2 => lq_md (by omega) (by omega) (fun b hb => nm_r (nI_1 _) (lq_cell (by omega) hL (fun v3 => lq_md (by omega) (by omega) (fun d hd => ?_))))))))))))
    by_cases e : a = 0
    · subst e
      refine br_t (by decide) ?_
      unfold wL_law_123
      refine lx_make hs p (by omega) (by omega) (fun _ => ?_) (fun z => absurd rfl z) ⟨d, hd, rfl⟩ (fun r c' K' L' R' M' A' J' => nm_r (nI_1 i) (nx (c', K', L', R', M', A') J'))
      rw [pk_andN (m := 1) (by omega) 1 (by decide)]
      obtain h | h : b % 2 ^ 1 = 0 ∨ b % 2 ^ 1 = 1 := by omega
      · rw [h]; exact Or.inl rfl
      · rw [h]; exact Or.inr rfl
    · have n1 : ¬ nI (1 + a) = 1 := fun z => by
        have : 1 + a = 1 := ha_eq (b := 1) z (by omega) (by omega)
        omega
      refine br_f n1 ?_
      unfold wL_law_123
      exact lx_make hs p (by omega) (by omega) (fun z => by omega) (fun _ => ⟨b, hb, rfl⟩) ⟨d, hd, rfl⟩ (fun r c' K' L' R' M' A' J' => nm_r (nI_1 i) (nx (c', K', L', R', M', A') J'))
end HLW
theorem i_vc (xs : Nat → Int32) (L : Nat) (hL : L ≤ 260) : wpL_law (fun r => r = 1) L xs := by
  unfold wpL_law
  refine lq_cell (k := 0) (by omega) hL (fun v => lq_md (d := 3) (by omega) (by omega) (fun r hr => nm_r (nI_add 2 r) ⟨11, 640, by omega, by omega, lx_init (by omega) (by omega) ?_⟩))
  intro K L' R M A Z E r0 r1 rc F J
  refine nm_r (show (1 : Int32) + 1 = nI 2 by decide) (lq_cell (k := 1) (by omega) hL (fun v' => lq_md (d := 13) (by omega) (by omega) (fun q hq => lz_45 J rfl rfl hL hq)))
