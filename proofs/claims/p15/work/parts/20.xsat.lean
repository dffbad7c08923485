/-! X's saturate: one round -/
theorem hc_nv {n c m : Nat} {K L R A : Nat → Int32} (W : hp_W n c K L R) (C : hp_C n c K L R A) (hm : m < 256) (e : A m = nI m) : ¬ K (m / 16) = 1 := by
  intro k1
  have hv := hc_g C hm e
  obtain ⟨a1, a2, a3, a4⟩ := hq_a (A := A) W hv.1 hv.2 (Or.inr k1)
  obtain ⟨q, q1, q2, q3, q4, q5⟩ := (C m hm).1 hv.1 hv.2
  have eq : m = q := ha_eq (e.symm.trans q2) (by omega) (by omega)
  subst eq
  by_cases h : 16 * hp_n K L m < m
  · exact q5 _ h a2 a3
  · have k0 : ¬ K (m / 16) = 0 := by rw [k1]; decide
    have e1 : m % 16 = 0 := by omega
    have e2 : hp_n K L m = 0 := by
      unfold hp_n
      rw [if_neg k0, e1]
      split <;> rfl
    have e3 : m / 16 = 0 := by omega
    rw [e3] at k0
    have w := W.1
    rcases W.2.2.2 0 (by omega) with ⟨_, z, _⟩ | ⟨z, _⟩
    · exact k0 z
    · omega
section HL
variable {fN fT fP fp fc fe fr fs fk : Int32} {K L R M A Z E r0 r1 rc F : Nat → Int32} {Rk : Nat → Int32} {n c i g : Nat} {D : Nat → Prop}
theorem hu_v (hG : hp_G A Rk i) (hg : g < 256) : hp_u Rk i D g = -1 ∨ ∃ j, j ≤ i + 1 ∧ hp_u Rk i D g = nI j := by
  by_cases h1 : Rk g = -1
  · by_cases d : D g
    · exact Or.inr ⟨i + 1, Nat.le_refl _, hu_1 h1 d⟩
    · rw [hu_2 d]
      exact Or.inl h1
  · rw [hu_3 h1]
    rcases hG g hg with a | ⟨a, j, b, e⟩
    · exact Or.inl a
    · exact Or.inr ⟨j, by omega, e⟩
theorem xl_learn {post : St2 → Prop} (hg : g < 256) (hi : i < 1000) (h : post (fN, fT, fP, fp, fc, fe, fr, fs, nI (hp_k (hp_u Rk i (fun x => D x ∨ x = g)) 256), K, L, R, M, A, hp_u Rk i (fun x => D x ∨ x = g), E, r0, r1, rc, F)) : wpX_learn post (fN, fT, fP, fp, fc, fe, fr, fs, nI (hp_k (hp_u Rk i D) 256), K, L, R, M, A, hp_u Rk i D, E, r0, r1, rc, F) (nI g) (nI i + 1) := by
  have hin : vp_in (nI g) 256 := vp_in_nI hg (by decide)
  have hcl : (nI g).toNatClampNeg = g := nI_clamp (by omega)
  refine ⟨hin, ?_⟩
  rw [hcl]
  by_cases e : hp_u Rk i D g = -1
  · have e1 := hu_n (D := D) e hi
    have e2 : hp_k (hp_u Rk i (fun x => D x ∨ x = g)) 256 = hp_k (hp_u Rk i D) 256 + 1 := by
      rw [e1]
      exact hk_u hg e (ha_ne1 (by omega))
    refine br_t e ⟨hin, nm_r (e' := hp_u Rk i (fun x => D x ∨ x = g)) (by rw [e1, nI_1 i]) (nm_r (e' := nI (hp_k (hp_u Rk i (fun x => D x ∨ x = g)) 256)) (by rw [e2, nI_1]) h)⟩
  · refine br_f e ?_
    rw [hu_k hi e] at h
    exact h
theorem xl_held {post : Int32 → Prop} (hG : hp_G A Rk i) (hg : g < 256) (hi : i < 1000) (h1 : hp_H Rk i g → post 1) (h0 : ¬ hp_H Rk i g → post 0) : wpX_isHeld post (fN, fT, fP, fp, fc, fe, fr, fs, fk, K, L, R, M, A, hp_u Rk i D, E, r0, r1, rc, F) (nI g) (nI i) := by
  have hin : vp_in (nI g) 256 := vp_in_nI hg (by decide)
  have hcl : (nI g).toNatClampNeg = g := nI_clamp (by omega)
  rw [← hu_H (D := D) hi] at h1 h0
  refine ⟨hin, ?_⟩
  rw [hcl]
  rcases hu_v (D := D) hG hg with e | ⟨j, hj, e⟩
  · refine br_t e (h0 ?_)
    rintro ⟨j, _, e'⟩
    rw [e] at e'
    exact ha_ne1 (by omega) e'.symm
  · have ne : ¬ hp_u Rk i D g = -1 := by rw [e]; exact ha_ne1 (by omega)
    refine br_f ne ⟨hin, ?_⟩
    rw [e]
    by_cases h : i < j
    · refine br_t (nI_lt h (by omega)) (h0 ?_)
      rintro ⟨j', hj', e'⟩
      have := ha_eq (e.symm.trans e') (by omega) (by omega)
      omega
    · exact br_f (nI_nlt (by omega) (by omega)) (h1 ⟨j, by omega, e⟩)
theorem xl_comp {post : St2 → Prop} (W : hp_W n c K L R) (C : hp_C n c K L R A) (hG : hp_G A Rk i) (hi : i < 1000)
    (h : post (fN, fT, fP, fp, fc, fe, fr, fs, nI (hp_k (hp_u Rk i (hp_X n K L R A r0 r1 rc Rk i 256 0 0 0)) 256), K, L, R, M, A, hp_u Rk i (hp_X n K L R A r0 r1 rc Rk i 256 0 0 0), E, r0, r1, rc, F)) :
    wpX_compose post (fN, fT, fP, fp, fc, fe, fr, fs, nI (hp_k Rk 256), K, L, R, M, A, Rk, E, r0, r1, rc, F) (nI i) := by
  have z0 : hp_u Rk i (hp_X n K L R A r0 r1 rc Rk i 0 0 0 0) = Rk := hu_0 (fun g => hx_0)
  have go : ∃ f, wX_compose_2 post (nI i) f (nI 0) fN fT fP fp fc fe fr fs (nI (hp_k (hp_u Rk i (hp_X n K L R A r0 r1 rc Rk i 0 0 0 0)) 256)) K L R M A (hp_u Rk i (hp_X n K L R A r0 r1 rc Rk i 0 0 0 0)) E r0 r1 rc F := by
    refine pk_loop (fun f m (_ : Unit) => wX_compose_2 post (nI i) f (nI m) fN fT fP fp fc fe fr fs (nI (hp_k (hp_u Rk i (hp_X n K L R A r0 r1 rc Rk i m 0 0 0)) 256)) K L R M A (hp_u Rk i (hp_X n K L R A r0 r1 rc Rk i m 0 0 0)) E r0 r1 rc F) (fun _ _ => True) 256 0 () (by omega) trivial ?_ ?_
    · intro f s _
      exact br_t (nI_le (a := 256) (b := 256) (by omega) (by decide)) h
    · intro f m s hm _ nx
      have nx := nx () trivial
      have n0 : ¬ hp_c K L R A Rk i m → ∀ x, x = nI m + 1 → wX_compose_2 post (nI i) f x fN fT fP fp fc fe fr fs (nI (hp_k (hp_u Rk i (hp_X n K L R A r0 r1 rc Rk i m 0 0 0)) 256)) K L R M A (hp_u Rk i (hp_X n K L R A r0 r1 rc Rk i m 0 0 0)) E r0 r1 rc F := fun z => by
        rw [hu_e (Rk := Rk) (i := i) (fun g => hx_c0 (n := n) (r0 := r0) (r1 := r1) (rc := rc) (mt := 0) (r := 0) (s := 0) (g := g) z)] at nx
        exact nm_r (nI_1 m) nx
      have n1 : hp_c K L R A Rk i m → wX_compose_67 post (wX_compose_2 post (nI i) f) (nI i) (nI m) fN fT fP fp fc fe fr fs (nI (hp_k (hp_u Rk i (hp_X n K L R A r0 r1 rc Rk i m 0 0 0)) 256)) K L R M A (hp_u Rk i (hp_X n K L R A r0 r1 rc Rk i m 0 0 0)) E r0 r1 rc F := fun z => by
        rw [hu_e (Rk := Rk) (i := i) (fun g => hx_c1 (n := n) (r0 := r0) (r1 := r1) (rc := rc) (mt := 0) (r := 0) (s := 0) (g := g) hm z)] at nx
        unfold wX_compose_67
        exact xl_learn hm hi (nm_r (nI_1 m) nx)
      refine br_f (nI_ge (b := 256) hm (by decide)) (xi_gid hm (fun e => br_f (by decide) ⟨by decide, ?_, ?_⟩) (fun e => br_t rfl (n0 (fun z => e z.1))))
      · rw [ha_d16 (by omega)]
        exact vp_in_nI (by omega) (by decide)
      · rw [ha_d16 (a := m) (by omega), nI_clamp (n := m / 16) (by omega)]
        have hv := hc_g C hm e
        by_cases k0 : K (m / 16) = 0
        · exact br_t k0 (n0 (fun z => z.2.1 (Or.inl k0)))
        · have na : ¬ hp_a K m := fun z => z.elim k0 (hc_nv W C hm e)
          obtain ⟨l, a, l1, l2, l3, a1, a2, a3, a4⟩ := hc_l W C hv na
          refine br_f k0 (xi_lft W C hm hv na ?_)
          rw [a2]
          by_cases k5 : K (m / 16) = 5
          · have rr : R (m / 16) = -1 := by
              rcases (hw_na na W hv.1).2.2 with y | ⟨y, _⟩
              · exact y.2
              · rw [k5] at y
                exact absurd y (by decide)
            refine xi_right1 hm rr (xl_held hG a1 hi (fun hh => br_f (by decide) (br_t rfl (n1 ⟨e, na, by rw [a4]; exact hh, Or.inl k5⟩))) (fun hh => br_t rfl (n0 (fun z => hh (by rw [← a4]; exact z.2.2.1)))))
          · obtain ⟨l', b, l1', l2', l3', b1, b2, b3, b4⟩ := hc_r W C hv na k5
            refine xi_rgt W C hm hv na k5 ?_
            rw [b2]
            refine xl_held hG a1 hi (fun hh => br_f (by decide) (br_f (ha_ne1 (by omega)) (xl_held hG b1 hi (fun hb => br_f (by decide) (n1 ⟨e, na, by rw [a4]; exact hh, Or.inr (by rw [b4]; exact hb)⟩)) (fun hb => br_t rfl (n0 (fun z => z.2.2.2.elim k5 (fun y => hb (by rw [← b4]; exact y)))))))) (fun hh => br_t rfl (n0 (fun z => hh (by rw [← a4]; exact z.2.2.1))))
  rw [z0] at go
  exact go
end HL
