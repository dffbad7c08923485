/-! the law's search: by taking apart -/
section HSC
variable {n c ne nr ns : Nat} {ph kn : Int32} {K L R M A Z E r0 r1 rc F : Nat → Int32} {post : Int32 → Prop} {Lx : Nat} {xs : Nat → Int32} {J507 J517 : hq_T10} {q1 q3 q5 q12 q13 q15 q16 : Int32} {kc ks g : Nat}
theorem ls_1100 {J893 : hq_T11} {a : Nat} {x32 key : Int32} (hns : ns < 32) (hk : key = -1 ∨ ∃ y, y < 256 ∧ key = nI y)
    (hs3 : x32 = 3 → ∀ b, b < ns → F b = key → ∀ P : Int32 → St2 → Prop, P (nI ns) (nI n, 16, 32, ph, nI c, nI ne, nI nr, nI (ns + 1), kn, K, L, R, M, A, Z, E, r0, r1, rc, upd F ns (nI g)) → wpX_step P (nI n, 16, 32, ph, nI c, nI ne, nI nr, nI ns, kn, K, L, R, M, A, Z, E, r0, r1, rc, F) 7 (nI a) (nI b) 0)
    (hs4 : ¬ x32 = 3 → ∀ b, b < ns → F b = key → ∀ P : Int32 → St2 → Prop, P (nI ns) (nI n, 16, 32, ph, nI c, nI ne, nI nr, nI (ns + 1), kn, K, L, R, M, A, Z, E, r0, r1, rc, upd F ns (nI g)) → wpX_step P (nI n, 16, 32, ph, nI c, nI ne, nI nr, nI ns, kn, K, L, R, M, A, Z, E, r0, r1, rc, F) 8 (nI a) (nI b) 0)
    (nt : J893 (nI ns) (nI (a + 1)) (nI n) 16 32 ph (nI c) (nI ne) (nI nr) (nI (ns + 1)) kn K L R M A Z E r0 r1 rc (upd F ns (nI g))) (h0 : (∀ b, b < ns → ¬ (F b = key ∧ ¬ key = -1)) → J893 (-99) (nI (a + 1)) (nI n) 16 32 ph (nI c) (nI ne) (nI nr) (nI ns) kn K L R M A Z E r0 r1 rc F) :
    ∃ f, wL_law_1100 post Lx xs J507 J517 J893 q1 q3 q5 q12 q13 q15 q16 (nI g) (nI ns) (nI a) x32 key kc ks f (-99) 0 (nI n) 16 32 ph (nI c) (nI ne) (nI nr) (nI ns) kn K L R M A Z E r0 r1 rc F := by
  refine pk_loop (σ := Bool) (fun f b bb => hq_b bb (wL_law_1100 post Lx xs J507 J517 J893 q1 q3 q5 q12 q13 q15 q16 (nI g) (nI ns) (nI a) x32 key kc ks f (nI ns) (nI b) (nI n) 16 32 ph (nI c) (nI ne) (nI nr) (nI (ns + 1)) kn K L R M A Z E r0 r1 rc (upd F ns (nI g))) (wL_law_1100 post Lx xs J507 J517 J893 q1 q3 q5 q12 q13 q15 q16 (nI g) (nI ns) (nI a) x32 key kc ks f (-99) (nI b) (nI n) 16 32 ph (nI c) (nI ne) (nI nr) (nI ns) kn K L R M A Z E r0 r1 rc F))
    (fun b bb => hq_b bb True (∀ x, x < b → ¬ (F x = key ∧ ¬ key = -1))) ns 0 false (by omega) (fun q hq => absurd hq (Nat.not_lt_zero q)) ?_ ?_
  · intro f bb hbb
    cases bb with
    | true => exact br_t (nI_le (Nat.le_refl _) (by omega)) (nm_r (nI_1 a) nt)
    | false => exact br_t (nI_le (Nat.le_refl _) (by omega)) (nm_r (nI_1 a) (h0 hbb))
  · intro f b bb hb hbb nx
    cases bb with
    | true => exact br_f (nI_ge hb (by omega)) (br_f (ha_99 (by omega)) (nm_r (nI_1 a) nt))
    | false =>
      have nn : ¬ (F b = key ∧ ¬ key = -1) → ∀ x, x = nI b + 1 → wL_law_1100 post Lx xs J507 J517 J893 q1 q3 q5 q12 q13 q15 q16 (nI g) (nI ns) (nI a) x32 key kc ks f (-99) x (nI n) 16 32 ph (nI c) (nI ne) (nI nr) (nI ns) kn K L R M A Z E r0 r1 rc F := fun z => nm_r (nI_1 b) (nx false (lt_s hbb z))
      refine br_f (nI_ge hb (by omega)) (br_t rfl ?_)
      rcases hk with e | ⟨y, hy, e⟩
      · exact br_t (by rw [e]; decide) (nn (fun z => z.2 e))
      · refine br_f (by rw [e]; exact nI_pos (by omega)) (lf_1 hb (by omega) ?_)
        by_cases ek : F b = key
        · refine br_t ek ?_
          by_cases k3 : x32 = 3
          · exact br_t k3 (hs3 k3 b hb ek _ (nm_r (nI_1 b) (nx true trivial)))
          · exact br_f k3 (hs4 k3 b hb ek _ (nm_r (nI_1 b) (nx true trivial)))
        · exact br_f ek (nn (fun z => ek z.1))
def hp_mc (K L R A F : Nat → Int32) (ns g a : Nat) : Prop := ∃ f, f < 256 ∧ F a = nI f ∧
  ((K (f / 16) = 2 ∧ (A (hp_l L f) = nI g ∨ A (hp_l R f) = nI g)) ∨
   (K (f / 16) = 3 ∧ A (hp_l L f) = nI g ∧ ∃ b, b < ns ∧ F b = A (hp_l R f)) ∨
   (K (f / 16) = 4 ∧ A (hp_l L f) = nI g ∧ K (hp_i A (hp_l R f) / 16) = 5 ∧ ∃ b, b < ns ∧ F b = A (hp_l L (hp_i A (hp_l R f)))))
theorem ls_C (J : hx_J n c ne nr ns ph kn K L R M A Z E r0 r1 rc F) (p1 : ph = 1) (hns : ns < 32) (hg : g < 256) (hA : A g = nI g) (J1 : hx_J n c ne nr (ns + 1) ph kn K L R M A Z E r0 r1 rc (upd F ns (nI g))) (h1 : J517 (nI (g + 1)) (nI n) 16 32 ph (nI c) (nI ne) (nI nr) (nI (ns + 1)) kn K L R M A Z E r0 r1 rc (upd F ns (nI g))) (hF : ∀ j, j < ns → ∃ g, g < 256 ∧ F j = nI g ∧ A g = nI g ∧ ¬ Z g = -1)
    (h0 : (∀ a, a < ns → ¬ hp_mc K L R A F ns g a) → ∃ f, wL_law_1169 post Lx xs J507 J517 q1 q3 q5 q12 q13 q15 q16 (nI g) (nI ns) kc ks f (-99) 0 (nI n) 16 32 ph (nI c) (nI ne) (nI nr) (nI ns) kn K L R M A Z E r0 r1 rc F) : ∃ f, wL_law_893 post Lx xs J507 J517 q1 q3 q5 q12 q13 q15 q16 (nI g) (nI ns) kc ks f (-99) 0 (nI n) 16 32 ph (nI c) (nI ne) (nI nr) (nI ns) kn K L R M A Z E r0 r1 rc F := by
  obtain ⟨b1, b2, b3, b4, b5, b6, b7⟩ := hj_b J
  have W := J.1.1
  have C := J.2.1.1
  refine pk_loop (σ := Bool) (fun f a b => hq_b b (wL_law_893 post Lx xs J507 J517 q1 q3 q5 q12 q13 q15 q16 (nI g) (nI ns) kc ks f (nI ns) (nI a) (nI n) 16 32 ph (nI c) (nI ne) (nI nr) (nI (ns + 1)) kn K L R M A Z E r0 r1 rc (upd F ns (nI g))) (wL_law_893 post Lx xs J507 J517 q1 q3 q5 q12 q13 q15 q16 (nI g) (nI ns) kc ks f (-99) (nI a) (nI n) 16 32 ph (nI c) (nI ne) (nI nr) (nI ns) kn K L R M A Z E r0 r1 rc F))
    (fun a b => hq_b b True (∀ a', a' < a → ¬ hp_mc K L R A F ns g a')) ns 0 false (by omega) (fun q hq => absurd hq (Nat.not_lt_zero q)) ?_ ?_
  · intro f b hb
    cases b with
    | true => exact ld_893 (Nat.lt_succ_self ns) (by omega) pk_us h1 f _
    | false => exact br_t (nI_le (Nat.le_refl _) (by omega)) (h0 hb)
  · intro fu a b ha hb nx
    cases b with
    | true => exact ld_893 (Nat.lt_succ_self ns) (by omega) pk_us h1 fu _
    | false =>
      have nt := nx true trivial
      obtain ⟨f, hf, ef, af, zf⟩ := hF a ha
      have hv := hc_g C hf af
      have uq : ∀ f', f' < 256 → F a = nI f' → f' = f := fun f' h e => ha_eq (e.symm.trans ef) (by omega) (by omega)
      have nn : ¬ hp_mc K L R A F ns g a → wL_law_893 post Lx xs J507 J517 q1 q3 q5 q12 q13 q15 q16 (nI g) (nI ns) kc ks fu (-99) (nI (a + 1)) (nI n) 16 32 ph (nI c) (nI ne) (nI nr) (nI ns) kn K L R M A Z E r0 r1 rc F := fun z => nx false (lt_s hb z)
      have nn' : ¬ hp_mc K L R A F ns g a → ∀ x, x = nI a + 1 → wL_law_893 post Lx xs J507 J517 q1 q3 q5 q12 q13 q15 q16 (nI g) (nI ns) kc ks fu (-99) x (nI n) 16 32 ph (nI c) (nI ne) (nI nr) (nI ns) kn K L R M A Z E r0 r1 rc F := fun z => nm_r (nI_1 a) (nn z)
      refine br_f (nI_ge ha (by omega)) (br_t rfl (lf_1 ha b6 ?_))
      rw [ef]
      refine nm_r (ha_s4 (by omega)) (nm_r (ha_a3 (by omega)) (nm_r (ha_s24 (by omega)) (lk_1 hv.1 b3 ?_)))
      by_cases k0 : K (f / 16) = 0
      · refine br_t (by rw [k0]; decide) (nn' ?_)
        rintro ⟨f', f1, f2, z⟩
        rw [uq f' f1 f2, k0] at z
        rcases z with ⟨z, _⟩ | ⟨z, _⟩ | ⟨z, _⟩ <;> exact absurd z (by decide)
      · have na : ¬ hp_a K f := fun z => z.elim k0 (hc_nv W C hf af)
        obtain ⟨_, ⟨l, hl, el⟩, hR⟩ := hw_na na W hv.1
        have ell : hp_l L f = l * 16 + f % 16 := by
          unfold hp_l
          rw [el, nI_clamp (by omega)]
        rcases hR with ⟨k5, _⟩ | ⟨k234, r, hr, er⟩
        · refine br_f (by rw [k5]; decide) (br_f (by rw [k5]; decide) (nn' ?_))
          rintro ⟨f', f1, f2, z⟩
          rw [uq f' f1 f2, k5] at z
          rcases z with ⟨z, _⟩ | ⟨z, _⟩ | ⟨z, _⟩ <;> exact absurd z (by decide)
        · have n5 : ¬ K (f / 16) = 5 := by rcases k234 with e | e | e <;> rw [e] <;> decide
          have err : hp_l R f = r * 16 + f % 16 := by
            unfold hp_l
            rw [er, nI_clamp (by omega)]
          have n2 : ¬ K (f / 16) < 2 := by rcases k234 with e | e | e <;> rw [e] <;> decide
          have n4 : K (f / 16) ≤ 4 := by rcases k234 with e | e | e <;> rw [e] <;> decide
          refine br_f n2 (br_t n4 (lh_0 hv.1 b3 ?_))
          rw [el]
          refine lg_l J (by omega) hv.2 (lh_1 hv.1 b3 ?_)
          rw [er]
          refine lg_l J (by omega) hv.2 ?_
          rw [← ell, ← err]
          by_cases k2 : K (f / 16) = 2
          · have s5 : A (hp_l L f) = nI g → wL_law_1016 post Lx xs J507 J517 (wL_law_893 post Lx xs J507 J517 q1 q3 q5 q12 q13 q15 q16 (nI g) (nI ns) kc ks fu) q1 q3 q5 q12 q13 q15 q16 (nI g) (nI ns) (nI a) (A (hp_l L f)) kc ks (nI n) 16 32 ph (nI c) (nI ne) (nI nr) (nI ns) kn K L R M A Z E r0 r1 rc F := fun e => by
              refine br_t e ?_
              unfold wL_law_1030
              refine st_5 J p1 hns ha hf ef af (fun z => absurd k2 z) (fun _ => ?_)
              rw [e]
              exact nm_r (nI_1 a) nt
            refine br_t k2 ?_
            by_cases e1 : A (hp_l L f) = nI g
            · exact br_t e1 (s5 e1)
            · refine br_f e1 ?_
              by_cases e2 : A (hp_l R f) = nI g
              · refine br_t e2 (br_f e1 ?_)
                unfold wL_law_1030
                refine st_6 J p1 hns ha hf ef af (fun z => absurd k2 z) (fun _ => ?_)
                rw [e2]
                exact nm_r (nI_1 a) nt
              · refine br_f e2 (br_t k2 (nn' ?_))
                rintro ⟨f', f1, f2, z⟩
                rw [uq f' f1 f2] at z
                rcases z with ⟨_, z | z⟩ | ⟨z, _⟩ | ⟨z, _⟩
                · exact e1 z
                · exact e2 z
                · rw [k2] at z; exact absurd z (by decide)
                · rw [k2] at z; exact absurd z (by decide)
          · refine br_f k2 (br_f k2 ?_)
            by_cases e1 : A (hp_l L f) = nI g
            · refine br_t e1 ?_
              by_cases k3 : K (f / 16) = 3
              · obtain ⟨l', b, l1', l2', l3', y1, y2, y3, y4⟩ := hc_r W C hv na n5
                refine br_t k3 (ls_1100 hns (Or.inr ⟨b, y1, y2⟩) (fun _ b' hb' eb P hP => ?_) (fun z => absurd k3 z) nt (fun z => nn ?_))
                · refine st_7 J p1 hns ha hb' hf ef af (fun z => absurd ⟨k3, eb.symm⟩ z) (fun _ _ => ?_)
                  rw [e1]
                  exact hP
                · rintro ⟨f', f1, f2, y⟩
                  rw [uq f' f1 f2] at y
                  rcases y with ⟨y, _⟩ | ⟨_, _, b', hb', y⟩ | ⟨y, _⟩
                  · exact k2 y
                  · exact z b' hb' ⟨y, by rw [y2]; exact ha_ne1 (by omega)⟩
                  · rw [k3] at y; exact absurd y (by decide)
              · have k4 : K (f / 16) = 4 := by
                  rcases k234 with e | e | e
                  · exact absurd e k2
                  · exact absurd e k3
                  · exact e
                obtain ⟨l', w, l1', l2', l3', w1, w2, w3, w4⟩ := hc_r W C hv na n5
                have hp1 : hp_l R f / 16 = r := by omega
                have hp2 : hp_l R f % 16 = f % 16 := by omega
                obtain ⟨q, q1', q2', q3', q4', q5', q6'⟩ := hc_1 C (show hp_l R f < 256 by omega) (by omega) (by rw [hp2]; exact hv.2)
                have eqw : q = w := ha_eq (q2'.symm.trans w2) (by omega) (by omega)
                subst eqw
                refine br_f k3 (lk_1 (by omega) b3 ?_)
                by_cases k5 : K r = 5
                · have nap : ¬ hp_a K (hp_l R f) := by
                    unfold hp_a
                    rw [hp1, k5]
                    decide
                  rcases q5' with ⟨z, _⟩ | ⟨_, z1, z2, _⟩
                  · exact absurd z nap
                  · obtain ⟨l2, g1, g2, g3⟩ := hw_lp W (p := hp_l R f) (by omega) nap
                    rw [hp1] at g1 g2
                    rw [hp1, k5] at z1
                    refine br_t k5 (lh_0 (by omega) b3 ?_)
                    rw [g2]
                    refine lg_l J (by omega) hv.2 ?_
                    have ek : A (l2 * 16 + f % 16) = A (hp_l L q) := by rw [← z2, g3, hp2]
                    rw [ek]
                    obtain ⟨l3, y, _, _, _, y1, y2, y3, y4⟩ := hc_l W C (hc_g C w1 w3) (hn_5 z1.symm)
                    refine ls_1100 hns (Or.inr ⟨y, y1, y2⟩) (fun z => absurd z k3) (fun _ b' hb' eb P hP => ?_) nt (fun z => nn ?_)
                    · obtain ⟨g', hg', eg', _, _⟩ := hF b' hb'
                      refine st_8 J p1 hns ha hb' hf ef af hg' eg' (fun z => absurd ⟨k4, by rw [w4]; exact z1.symm, by rw [w4]; exact eb.symm⟩ z) (fun _ _ _ => ?_)
                      rw [e1]
                      exact hP
                    · rintro ⟨f', f1, f2, o⟩
                      rw [uq f' f1 f2] at o
                      rcases o with ⟨o, _⟩ | ⟨o, _⟩ | ⟨_, _, _, b', hb', o⟩
                      · exact k2 o
                      · exact k3 o
                      · rw [w4] at o
                        exact z b' hb' ⟨o, by rw [y2]; exact ha_ne1 (by omega)⟩
                · refine br_f k5 (ls_1100 hns (Or.inl rfl) (fun z => absurd z k3) (fun _ b' hb' eb P hP => ?_) nt (fun z => nn ?_))
                  · obtain ⟨g', hg', eg', _, _⟩ := hF b' hb'
                    rw [eg'] at eb
                    exact absurd eb (ha_ne1 (by omega))
                  · rintro ⟨f', f1, f2, o⟩
                    rw [uq f' f1 f2] at o
                    rcases o with ⟨o, _⟩ | ⟨o, _⟩ | ⟨_, _, o, _⟩
                    · exact k2 o
                    · exact k3 o
                    · rw [w4] at o
                      rcases q5' with ⟨_, z, _⟩ | ⟨_, z, _⟩
                      · exact hn_5 o z
                      · rw [hp1, o] at z
                        exact k5 z
            · refine br_f e1 (nn' ?_)
              rintro ⟨f', f1, f2, z⟩
              rw [uq f' f1 f2] at z
              rcases z with ⟨z, _⟩ | ⟨_, z, _⟩ | ⟨_, z, _⟩
              · exact k2 z
              · exact e1 z
              · exact e1 z
end HSC
