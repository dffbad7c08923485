/-! the law's search: by an entry, by composing -/
section HSA
variable {n c ne nr ns : Nat} {ph kn : Int32} {K L R M A Z E r0 r1 rc F : Nat → Int32} {post : Int32 → Prop} {Lx : Nat} {xs : Nat → Int32} {J507 J517 : hq_T10} {q1 q3 q5 q12 q13 q15 q16 : Int32} {kc ks g : Nat} {x21 : Int32}
theorem ls_A (J : hx_J n c ne nr ns ph kn K L R M A Z E r0 r1 rc F) (p1 : ph = 1) (hns : ns < 32) (hg : g < 256) (hA : A g = nI g) (J1 : hx_J n c ne nr (ns + 1) ph kn K L R M A Z E r0 r1 rc (upd F ns (nI g))) (h1 : J517 (nI (g + 1)) (nI n) 16 32 ph (nI c) (nI ne) (nI nr) (nI (ns + 1)) kn K L R M A Z E r0 r1 rc (upd F ns (nI g)))
    (h0 : (∀ e, e < ne → ¬ A ((E e).toNatClampNeg * 16) = nI g) → wL_law_735 post Lx xs J507 J517 q1 q3 q5 q12 q13 q15 q16 (nI g) (nI (g / 16)) (nI (g % 4)) (nI (g / 4 % 4)) x21 (-99) (K (g / 16)) kc ks (nI n) 16 32 ph (nI c) (nI ne) (nI nr) (nI ns) kn K L R M A Z E r0 r1 rc F) :
    ∃ f, wL_law_684 post Lx xs J507 J517 q1 q3 q5 q12 q13 q15 q16 (nI g) (nI (g / 16)) (nI (g % 4)) (nI (g / 4 % 4)) x21 (K (g / 16)) kc ks f (-99) 0 (nI n) 16 32 ph (nI c) (nI ne) (nI nr) (nI ns) kn K L R M A Z E r0 r1 rc F := by
  obtain ⟨b1, b2, b3, b4, b5, b6, b7⟩ := hj_b J
  have W := J.1.1
  have C := J.2.1.1
  refine pk_loop (σ := Bool) (fun f i b => hq_b b (wL_law_684 post Lx xs J507 J517 q1 q3 q5 q12 q13 q15 q16 (nI g) (nI (g / 16)) (nI (g % 4)) (nI (g / 4 % 4)) x21 (K (g / 16)) kc ks f (nI ns) (nI i) (nI n) 16 32 ph (nI c) (nI ne) (nI nr) (nI (ns + 1)) kn K L R M A Z E r0 r1 rc (upd F ns (nI g))) (wL_law_684 post Lx xs J507 J517 q1 q3 q5 q12 q13 q15 q16 (nI g) (nI (g / 16)) (nI (g % 4)) (nI (g / 4 % 4)) x21 (K (g / 16)) kc ks f (-99) (nI i) (nI n) 16 32 ph (nI c) (nI ne) (nI nr) (nI ns) kn K L R M A Z E r0 r1 rc F))
    (fun i b => hq_b b True (∀ e, e < i → ¬ A ((E e).toNatClampNeg * 16) = nI g)) ne 0 false (by omega) (fun q hq => absurd hq (Nat.not_lt_zero q)) ?_ ?_
  · intro f b hb
    cases b with
    | true => exact ld_684 J1 hg hA (Nat.lt_succ_self ns) pk_us h1 f _
    | false =>
      show wL_law_684 post Lx xs J507 J517 q1 q3 q5 q12 q13 q15 q16 (nI g) (nI (g / 16)) (nI (g % 4)) (nI (g / 4 % 4)) x21 (K (g / 16)) kc ks (f + 1) (-99) (nI ne) (nI n) 16 32 ph (nI c) (nI ne) (nI nr) (nI ns) kn K L R M A Z E r0 r1 rc F
      unfold wL_law_684
      exact lc_1 (br_t (nI_le (Nat.le_refl _) (by omega)) (h0 hb))
  · intro f i b hi hb nx
    cases b with
    | true => exact ld_684 J1 hg hA (Nat.lt_succ_self ns) pk_us h1 f _
    | false =>
      obtain ⟨h, x, hh, eh, x1, x2, x3, x4⟩ := he_x W C (J.2.2.1.1 i hi)
      obtain ⟨h', hh', eh'⟩ := J.2.2.1.1 i hi
      have e' : h = h' := ha_eq (eh.symm.trans eh') (by omega) (by omega)
      have ee : (E i).toNatClampNeg * 16 = h * 16 := by rw [eh, nI_clamp (by omega)]
      show wL_law_684 post Lx xs J507 J517 q1 q3 q5 q12 q13 q15 q16 (nI g) (nI (g / 16)) (nI (g % 4)) (nI (g / 4 % 4)) x21 (K (g / 16)) kc ks (f + 1) (-99) (nI i) (nI n) 16 32 ph (nI c) (nI ne) (nI nr) (nI ns) kn K L R M A Z E r0 r1 rc F
      unfold wL_law_684
      refine lc_1 (br_f (nI_ge hi (by omega)) (br_t rfl (le_1 hi b4 ?_)))
      rw [eh]
      refine xg_id (a := 0) (b := 0) b3 b1 (by omega) (by omega) (by omega) ?_
      by_cases e : A (h * 16) = nI g
      · refine br_t e (st_0 J p1 hns hi ?_)
        rw [ee, e]
        exact nm_r (nI_1 i) (nx true trivial)
      · exact br_f e (nm_r (nI_1 i) (nx false (lt_s hb (by rw [ee]; exact e))))
def hp_ab (K L R A F : Nat → Int32) (g a b : Nat) : Prop := ¬ hp_a K g ∧ F a = A (hp_l L g) ∧ (K (g / 16) = 5 ∨ F b = A (hp_l R g))
theorem hq_r {a b : Nat} (C : hp_C n c K L R A) (hg : g < 256) (hA : A g = nI g) (m : hp_ab K L R A F g a b) : hp_r K L R A (K (g / 16)) (F a) (F b) (nI g) := by
  refine Or.inl ⟨g, hg, rfl, ⟨hA, rfl, m.2.1.symm, m.2.2.imp id Eq.symm⟩, fun q hq z => ?_⟩
  have s : hp_S K L R A g q := Or.inr ⟨m.1, z.2.1.symm, by rw [z.2.2.1, m.2.1], ?_⟩
  · have := hc_u C hg (by omega) hA z.1 s
    omega
  · rcases m.2.2 with k5 | e
    · exact Or.inl k5
    · rcases z.2.2.2 with k5 | y
      · exact Or.inl k5
      · exact Or.inr (by rw [y, e])
theorem ls_B (J : hx_J n c ne nr ns ph kn K L R M A Z E r0 r1 rc F) (p1 : ph = 1) (hns : ns < 32) (hg : g < 256) (hA : A g = nI g) (J1 : hx_J n c ne nr (ns + 1) ph kn K L R M A Z E r0 r1 rc (upd F ns (nI g))) (h1 : J517 (nI (g + 1)) (nI n) 16 32 ph (nI c) (nI ne) (nI nr) (nI (ns + 1)) kn K L R M A Z E r0 r1 rc (upd F ns (nI g))) {u v : Int32} (hu : ¬ hp_a K g → u = A (hp_l L g)) (hv : ¬ hp_a K g → ¬ K (g / 16) = 5 → v = A (hp_l R g))
    (h0 : (∀ a b, a < ns → b < ns → ¬ hp_ab K L R A F g a b) → ∃ f, wL_law_893 post Lx xs J507 J517 q1 q3 q5 q12 q13 q15 q16 (nI g) (nI ns) kc ks f (-99) 0 (nI n) 16 32 ph (nI c) (nI ne) (nI nr) (nI ns) kn K L R M A Z E r0 r1 rc F) : ∃ f, wL_law_798 post Lx xs J507 J517 q1 q3 q5 q12 q13 q15 q16 (nI g) (nI ns) (K (g / 16)) u v kc ks f (-99) 0 (nI n) 16 32 ph (nI c) (nI ne) (nI nr) (nI ns) kn K L R M A Z E r0 r1 rc F := by
  obtain ⟨b1, b2, b3, b4, b5, b6, b7⟩ := hj_b J
  have W := J.1.1
  have C := J.2.1.1
  have gv := hc_g C hg hA
  refine pk_loop (σ := Bool) (fun f a b => hq_b b (wL_law_798 post Lx xs J507 J517 q1 q3 q5 q12 q13 q15 q16 (nI g) (nI ns) (K (g / 16)) u v kc ks f (nI ns) (nI a) (nI n) 16 32 ph (nI c) (nI ne) (nI nr) (nI (ns + 1)) kn K L R M A Z E r0 r1 rc (upd F ns (nI g))) (wL_law_798 post Lx xs J507 J517 q1 q3 q5 q12 q13 q15 q16 (nI g) (nI ns) (K (g / 16)) u v kc ks f (-99) (nI a) (nI n) 16 32 ph (nI c) (nI ne) (nI nr) (nI ns) kn K L R M A Z E r0 r1 rc F))
    (fun a b => hq_b b True (∀ a', a' < a → ∀ b, b < ns → ¬ hp_ab K L R A F g a' b)) ns 0 false (by omega) (fun q hq => absurd hq (Nat.not_lt_zero q)) ?_ ?_
  · intro f b hb
    cases b with
    | true => exact ld_798 (Nat.lt_succ_self ns) (by omega) pk_us h1 f _
    | false => exact br_t (nI_le (Nat.le_refl _) (by omega)) (h0 (fun a b ha hb' => hb a ha b hb'))
  · intro f a b ha hb nx
    cases b with
    | true => exact ld_798 (Nat.lt_succ_self ns) (by omega) pk_us h1 f _
    | false =>
      have nt := nx true trivial
      refine br_f (nI_ge ha (by omega)) (br_t rfl ?_)
      refine pk_loop (σ := Bool) (fun f' b' bb => hq_b bb (wL_law_815 post Lx xs J507 J517 (wL_law_798 post Lx xs J507 J517 q1 q3 q5 q12 q13 q15 q16 (nI g) (nI ns) (K (g / 16)) u v kc ks f) q1 q3 q5 q12 q13 q15 q16 (nI g) (nI ns) (K (g / 16)) u v (nI a) kc ks f' (nI ns) (nI b') (nI n) 16 32 ph (nI c) (nI ne) (nI nr) (nI (ns + 1)) kn K L R M A Z E r0 r1 rc (upd F ns (nI g))) (wL_law_815 post Lx xs J507 J517 (wL_law_798 post Lx xs J507 J517 q1 q3 q5 q12 q13 q15 q16 (nI g) (nI ns) (K (g / 16)) u v kc ks f) q1 q3 q5 q12 q13 q15 q16 (nI g) (nI ns) (K (g / 16)) u v (nI a) kc ks f' (-99) (nI b') (nI n) 16 32 ph (nI c) (nI ne) (nI nr) (nI ns) kn K L R M A Z E r0 r1 rc F))
        (fun b' bb => hq_b bb True (∀ x, x < b' → ¬ hp_ab K L R A F g a x)) ns 0 false (by omega) (fun q hq => absurd hq (Nat.not_lt_zero q)) ?_ ?_
      · intro f' bb hbb
        cases bb with
        | true => exact br_t (nI_le (Nat.le_refl _) (by omega)) (nm_r (nI_1 a) nt)
        | false => exact br_t (nI_le (Nat.le_refl _) (by omega)) (nm_r (nI_1 a) (nx false (lt_s hb hbb)))
      · intro f' b' bb hb' hbb ny
        cases bb with
        | true => exact br_f (nI_ge hb' (by omega)) (br_f (ha_99 (by omega)) (nm_r (nI_1 a) nt))
        | false =>
          have nn : ¬ hp_ab K L R A F g a b' → ∀ x, x = nI b' + 1 → wL_law_815 post Lx xs J507 J517 (wL_law_798 post Lx xs J507 J517 q1 q3 q5 q12 q13 q15 q16 (nI g) (nI ns) (K (g / 16)) u v kc ks f) q1 q3 q5 q12 q13 q15 q16 (nI g) (nI ns) (K (g / 16)) u v (nI a) kc ks f' (-99) x (nI n) 16 32 ph (nI c) (nI ne) (nI nr) (nI ns) kn K L R M A Z E r0 r1 rc F := fun z => nm_r (nI_1 b') (ny false (lt_s hbb z))
          refine br_f (nI_ge hb' (by omega)) (br_t rfl ?_)
          by_cases k0 : K (g / 16) = 0
          · exact br_t (by rw [k0]; decide) (nn (fun z => z.1 (Or.inl k0)))
          · have na : ¬ hp_a K g := fun z => z.elim k0 (hc_nv W C hg hA)
            have hR := (hw_na na W gv.1).2.2
            have n2 : ¬ K (g / 16) < 2 := by
              rcases hR with ⟨e, _⟩ | ⟨e | e | e, _⟩ <;> rw [e] <;> decide
            have fnd : hp_ab K L R A F g a b' → wL_law_863 post Lx xs J507 J517 (wL_law_798 post Lx xs J507 J517 q1 q3 q5 q12 q13 q15 q16 (nI g) (nI ns) (K (g / 16)) u v kc ks f) (wL_law_815 post Lx xs J507 J517 (wL_law_798 post Lx xs J507 J517 q1 q3 q5 q12 q13 q15 q16 (nI g) (nI ns) (K (g / 16)) u v kc ks f) q1 q3 q5 q12 q13 q15 q16 (nI g) (nI ns) (K (g / 16)) u v (nI a) kc ks f') q1 q3 q5 q12 q13 q15 q16 (nI g) (nI ns) (K (g / 16)) u v (nI a) (nI b') kc ks (nI n) 16 32 ph (nI c) (nI ne) (nI nr) (nI ns) kn K L R M A Z E r0 r1 rc F := fun m => by
              have hr := hq_r C hg hA m
              have ne : ¬ nI g = -1 := ha_ne1 (by omega)
              unfold wL_law_863
              rcases hR with ⟨k5, _⟩ | ⟨k | k | k, _⟩
              · have ek : K (g / 16) - 1 = nI 4 := by rw [k5]; decide
                rw [k5] at hr
                rw [ek]
                exact st_4 J p1 hns ha (hr_5 hr) (fun z => absurd z ne) (fun _ => nm_r (nI_1 b') (ny true trivial))
              · have ek : K (g / 16) - 1 = nI 1 := by rw [k]; decide
                rw [k] at hr
                rw [ek]
                exact st_1 J p1 hns ha hb' hr (fun z => absurd z ne) (fun _ => nm_r (nI_1 b') (ny true trivial))
              · have ek : K (g / 16) - 1 = nI 2 := by rw [k]; decide
                rw [k] at hr
                rw [ek]
                exact st_2 J p1 hns ha hb' hr (fun z => absurd z ne) (fun _ => nm_r (nI_1 b') (ny true trivial))
              · have ek : K (g / 16) - 1 = nI 3 := by rw [k]; decide
                rw [k] at hr
                rw [ek]
                exact st_3 J p1 hns ha hb' hr (fun z => absurd z ne) (fun _ => nm_r (nI_1 b') (ny true trivial))
            have hu := hu na
            refine br_f n2 (lf_1 ha b6 ?_)
            by_cases e1 : F a = u
            · refine br_t e1 ?_
              by_cases k5 : K (g / 16) = 5
              · exact br_t k5 (fnd ⟨na, e1.trans hu, Or.inl k5⟩)
              · have hv := hv na k5
                refine br_f k5 (lf_1 hb' b6 ?_)
                by_cases e2 : F b' = v
                · exact br_t e2 (fnd ⟨na, e1.trans hu, Or.inr (e2.trans hv)⟩)
                · exact br_f e2 (nn (fun z => z.2.2.elim k5 (fun y => e2 (y.trans hv.symm))))
            · exact br_f e1 (nn (fun z => e1 (z.2.1.trans hu.symm)))
end HSA
