/-! X's saturate: takeApart and applyRules -/
section HP
variable {fN fT fP fp fc fe fr fs fk : Int32} {K L R M A Z E r0 r1 rc F : Nat → Int32} {Rk : Nat → Int32} {n c i m : Nat} {D : Nat → Prop}
theorem hu_a {a b : Nat} : hp_u Rk i (fun x => (D x ∨ x = a) ∨ x = b) = hp_u Rk i (fun x => D x ∨ (x = a ∨ x = b)) := hu_e (fun g => or_assoc)
theorem xl_one {post : St2 → Prop} (W : hp_W n c K L R) (C : hp_C n c K L R A) (hG : hp_G A Rk i) (hi : i < 1000) (hm : m < 256) (e : A m = nI m) (hH : hp_H Rk i m)
    (h : post (fN, fT, fP, fp, fc, fe, fr, fs, nI (hp_k (hp_u Rk i (hp_X n K L R A r0 r1 rc Rk i 256 (m + 1) 0 0)) 256), K, L, R, M, A, hp_u Rk i (hp_X n K L R A r0 r1 rc Rk i 256 (m + 1) 0 0), E, r0, r1, rc, F)) :
    wpX_takeApartOne post (fN, fT, fP, fp, fc, fe, fr, fs, nI (hp_k (hp_u Rk i (hp_X n K L R A r0 r1 rc Rk i 256 m 0 0)) 256), K, L, R, M, A, hp_u Rk i (hp_X n K L R A r0 r1 rc Rk i 256 m 0 0), E, r0, r1, rc, F) (nI m) (nI i) := by
  have hv := hc_g C hm e
  have st : ∀ P : Nat → Prop, (∀ g, g < 256 → (hp_E K L R A Rk i m g ↔ P g)) → (∀ g, P g → g < 256) → hp_u Rk i (hp_X n K L R A r0 r1 rc Rk i 256 (m + 1) 0 0) = hp_u Rk i (fun x => hp_X n K L R A r0 r1 rc Rk i 256 m 0 0 x ∨ P x) := fun P h1 h2 =>
    hu_e (fun g => hx_t P (fun g hg => ⟨fun z => (h1 g hg).mp z.2.2, fun z => ⟨e, hH, (h1 g hg).mpr z⟩⟩) h2)
  have st0 : (∀ g, g < 256 → ¬ hp_E K L R A Rk i m g) → hp_u Rk i (hp_X n K L R A r0 r1 rc Rk i 256 (m + 1) 0 0) = hp_u Rk i (hp_X n K L R A r0 r1 rc Rk i 256 m 0 0) := fun h1 =>
    hu_e (fun g => hx_t0 (fun g hg z => h1 g hg z.2.2))
  refine ⟨by decide, ?_, ?_⟩
  · rw [ha_d16 (by omega)]
    exact vp_in_nI (by omega) (by decide)
  · rw [ha_d16 (a := m) (by omega), nI_clamp (n := m / 16) (by omega)]
    refine nm_e ?_
    by_cases k2 : K (m / 16) = 2
    · have n5 : ¬ K (m / 16) = 5 := by rw [k2]; decide
      obtain ⟨l, a, l1, l2, l3, a1, a2, a3, a4⟩ := hc_l W C hv (hn_2 k2)
      obtain ⟨l', b, l1', l2', l3', b1, b2, b3, b4⟩ := hc_r W C hv (hn_2 k2) n5
      rw [st (fun x => x = a ∨ x = b) ?_ ?_] at h
      · refine br_t k2 (xi_lft W C hm hv (hn_2 k2) (xi_rgt W C hm hv (hn_2 k2) n5 ?_))
        rw [a2, b2]
        refine xl_learn a1 hi (xl_learn b1 hi (br_f (by rw [k2]; decide) (br_f (by rw [k2]; decide) ?_)))
        rw [hu_a]
        exact h
      · intro g hg
        constructor
        · rintro (⟨_, z | z⟩ | ⟨z, _⟩ | ⟨z, _⟩)
          · exact Or.inl (ha_eq (z.symm.trans a2) (by omega) (by omega))
          · exact Or.inr (ha_eq (z.symm.trans b2) (by omega) (by omega))
          · rw [k2] at z; exact absurd z (by decide)
          · rw [k2] at z; exact absurd z (by decide)
        · rintro (rfl | rfl)
          · exact Or.inl ⟨k2, Or.inl a2⟩
          · exact Or.inl ⟨k2, Or.inr b2⟩
      · rintro g (rfl | rfl)
        · exact a1
        · exact b1
    · refine br_f k2 ?_
      by_cases k3 : K (m / 16) = 3
      · have n5 : ¬ K (m / 16) = 5 := by rw [k3]; decide
        obtain ⟨l, a, l1, l2, l3, a1, a2, a3, a4⟩ := hc_l W C hv (hn_3 k3)
        obtain ⟨l', b, l1', l2', l3', b1, b2, b3, b4⟩ := hc_r W C hv (hn_3 k3) n5
        refine br_t k3 (xi_lft W C hm hv (hn_3 k3) (xi_key3 W C hm hv k3 ?_))
        rw [a2, b2]
        refine br_f (ha_ne1 (by omega)) (xl_held hG b1 hi (fun hb => br_f (by decide) (xl_learn a1 hi ?_)) (fun hb => br_t rfl ?_))
        · rw [st (fun x => x = a) ?_ ?_] at h
          · exact h
          · intro g hg
            constructor
            · rintro (⟨z, _⟩ | ⟨_, z, _⟩ | ⟨z, _⟩)
              · exact absurd z k2
              · exact ha_eq (z.symm.trans a2) (by omega) (by omega)
              · rw [k3] at z; exact absurd z (by decide)
            · rintro rfl
              exact Or.inr (Or.inl ⟨k3, a2, by rw [b4]; exact hb⟩)
          · rintro g rfl
            exact a1
        · rw [st0 ?_] at h
          · exact h
          · intro g hg
            rintro (⟨z, _⟩ | ⟨_, z, y⟩ | ⟨z, _⟩)
            · exact absurd z k2
            · rw [b4] at y
              exact hb y
            · rw [k3] at z; exact absurd z (by decide)
      · refine br_f k3 ?_
        by_cases k4 : K (m / 16) = 4
        · have n5 : ¬ K (m / 16) = 5 := by rw [k4]; decide
          obtain ⟨l, a, l1, l2, l3, a1, a2, a3, a4⟩ := hc_l W C hv (hn_4 k4)
          obtain ⟨l', b, l1', l2', l3', b1, b2, b3, b4⟩ := hc_r W C hv (hn_4 k4) n5
          refine br_t k4 (xi_lft W C hm hv (hn_4 k4) (xi_key4 W C hm hv k4 b1 b2 b3 (fun k5 => ?_) (fun k5 => br_t rfl ?_)))
          · obtain ⟨l'', d, l1'', l2'', l3'', d1, d2, d3, d4⟩ := hc_l W C (hc_g C b1 b3) (hn_5 k5)
            rw [a2, d2]
            refine br_f (ha_ne1 (by omega)) (xl_held hG d1 hi (fun hd => br_f (by decide) (xl_learn a1 hi ?_)) (fun hd => br_t rfl ?_))
            · rw [st (fun x => x = a) ?_ ?_] at h
              · exact h
              · intro g hg
                constructor
                · rintro (⟨z, _⟩ | ⟨z, _⟩ | ⟨_, z, _⟩)
                  · exact absurd z k2
                  · exact absurd z k3
                  · exact ha_eq (z.symm.trans a2) (by omega) (by omega)
                · rintro rfl
                  exact Or.inr (Or.inr ⟨k4, a2, by rw [b4]; exact k5, by rw [b4, d4]; exact hd⟩)
              · rintro g rfl
                exact a1
            · rw [st0 ?_] at h
              · exact h
              · intro g hg
                rintro (⟨z, _⟩ | ⟨z, _⟩ | ⟨_, z, _, y⟩)
                · exact absurd z k2
                · exact absurd z k3
                · rw [b4, d4] at y
                  exact hd y
          · rw [st0 ?_] at h
            · exact h
            · intro g hg
              rintro (⟨z, _⟩ | ⟨z, _⟩ | ⟨_, z, y, _⟩)
              · exact absurd z k2
              · exact absurd z k3
              · rw [b4] at y
                exact k5 y
        · refine br_f k4 ?_
          rw [st0 ?_] at h
          · exact h
          · intro g hg
            rintro (⟨z, _⟩ | ⟨z, _⟩ | ⟨z, _⟩)
            · exact absurd z k2
            · exact absurd z k3
            · exact absurd z k4
theorem xl_apart {post : St2 → Prop} (W : hp_W n c K L R) (C : hp_C n c K L R A) (hG : hp_G A Rk i) (hi : i < 1000)
    (h : post (fN, fT, fP, fp, fc, fe, fr, fs, nI (hp_k (hp_u Rk i (hp_X n K L R A r0 r1 rc Rk i 256 256 0 0)) 256), K, L, R, M, A, hp_u Rk i (hp_X n K L R A r0 r1 rc Rk i 256 256 0 0), E, r0, r1, rc, F)) :
    wpX_takeApart post (fN, fT, fP, fp, fc, fe, fr, fs, nI (hp_k (hp_u Rk i (hp_X n K L R A r0 r1 rc Rk i 256 0 0 0)) 256), K, L, R, M, A, hp_u Rk i (hp_X n K L R A r0 r1 rc Rk i 256 0 0 0), E, r0, r1, rc, F) (nI i) := by
  refine pk_loop (fun f m (_ : Unit) => wX_takeApart_2 post (nI i) f (nI m) fN fT fP fp fc fe fr fs (nI (hp_k (hp_u Rk i (hp_X n K L R A r0 r1 rc Rk i 256 m 0 0)) 256)) K L R M A (hp_u Rk i (hp_X n K L R A r0 r1 rc Rk i 256 m 0 0)) E r0 r1 rc F) (fun _ _ => True) 256 0 () (by omega) trivial ?_ ?_
  · intro f s _
    exact br_t (nI_le (a := 256) (b := 256) (by omega) (by decide)) h
  · intro f m s hm _ nx
    have nx := nx () trivial
    have n0 : ¬ (A m = nI m ∧ hp_H Rk i m) → ∀ x, x = nI m + 1 → wX_takeApart_2 post (nI i) f x fN fT fP fp fc fe fr fs (nI (hp_k (hp_u Rk i (hp_X n K L R A r0 r1 rc Rk i 256 m 0 0)) 256)) K L R M A (hp_u Rk i (hp_X n K L R A r0 r1 rc Rk i 256 m 0 0)) E r0 r1 rc F := fun z => by
      rw [hu_e (Rk := Rk) (i := i) (fun g => hx_t0 (n := n) (r0 := r0) (r1 := r1) (rc := rc) (mc := 256) (mt := m) (r := 0) (s := 0) (g := g) (fun g hg y => z ⟨y.1, y.2.1⟩))] at nx
      exact nm_r (nI_1 m) nx
    refine br_f (nI_ge (b := 256) hm (by decide)) (xi_gid hm (fun e => br_f (by decide) (xl_held hG hm hi (fun hH => br_f (by decide) (xl_one W C hG hi hm e hH (nm_r (nI_1 m) nx))) (fun hH => br_t rfl (n0 (fun z => hH z.2))))) (fun e => br_t rfl (n0 (fun z => e z.1))))
theorem xl_sup {post : Int32 → Prop} {x : Int32} {s : Nat} (W : hp_W n c K L R) (C : hp_C n c K L R A) (hG : hp_G A Rk i) (hi : i < 1000) (hx : x = -1 ∨ ∃ h, h < c ∧ x = nI h) (hs : s < 16) (hV : hp_V n s) (h1 : hp_m A Rk i x s → post 1) (h0 : ¬ hp_m A Rk i x s → post 0) : wpX_isSupplied post (fN, fT, fP, fp, fc, fe, fr, fs, fk, K, L, R, M, A, hp_u Rk i D, E, r0, r1, rc, F) x (nI s) (nI i) := by
  have w := W.2.2.1
  by_cases e : x = -1
  · exact br_t e (h1 (Or.inl e))
  · obtain ⟨h, hh, rfl⟩ := hx.resolve_left e
    have e1 : nI h * 16 + nI s = nI (h * 16 + s) := by rw [ha_16, nI_add]
    have e2 : (h * 16 + s) % 16 = s := by omega
    obtain ⟨a, a1, a2, a3, a4⟩ := hc_p W C (t := h * 16 + s) ⟨by omega, by rw [e2]; exact hV⟩
    refine br_f e ?_
    unfold hp_m at h1 h0
    rw [nI_clamp (by omega), a4] at h1 h0
    rw [e1, nI_clamp (by omega), a2]
    exact ⟨vp_in_nI (by omega) (by decide), xl_held hG a1 hi (fun z => br_f (by decide) (h1 (Or.inr z))) (fun z => br_t rfl (h0 (fun y => y.elim e z)))⟩
theorem xl_rules {post : St2 → Prop} {nr : Nat} (W : hp_W n c K L R) (C : hp_C n c K L R A) (hR : hp_R c nr r0 r1 rc) (h8 : nr ≤ 8) (hG : hp_G A Rk i) (hi : i < 1000)
    (h : post (nI n, fT, fP, fp, fc, fe, nI nr, fs, nI (hp_k (hp_u Rk i (hp_X n K L R A r0 r1 rc Rk i 256 256 nr 0)) 256), K, L, R, M, A, hp_u Rk i (hp_X n K L R A r0 r1 rc Rk i 256 256 nr 0), E, r0, r1, rc, F)) :
    wpX_applyRules post (nI n, fT, fP, fp, fc, fe, nI nr, fs, nI (hp_k (hp_u Rk i (hp_X n K L R A r0 r1 rc Rk i 256 256 0 0)) 256), K, L, R, M, A, hp_u Rk i (hp_X n K L R A r0 r1 rc Rk i 256 256 0 0), E, r0, r1, rc, F) (nI i) := by
  have w := W.2.2.1
  have w4 := W.2.1
  refine pk_loop (fun f r (_ : Unit) => wX_applyRules_2 post (nI i) f (nI r) (nI n) fT fP fp fc fe (nI nr) fs (nI (hp_k (hp_u Rk i (hp_X n K L R A r0 r1 rc Rk i 256 256 r 0)) 256)) K L R M A (hp_u Rk i (hp_X n K L R A r0 r1 rc Rk i 256 256 r 0)) E r0 r1 rc F) (fun _ _ => True) nr 0 () (by omega) trivial ?_ ?_
  · intro f s _
    exact br_t (nI_le (Nat.le_refl _) (by omega)) h
  · intro f r s hr _ nx
    have nx := nx () trivial
    have hin : vp_in (nI r) 8 := vp_in_nI (by omega) (by decide)
    have hcl : (nI r).toNatClampNeg = r := nI_clamp (by omega)
    obtain ⟨o1, o2, hc, hcc, ec⟩ := hR r hr
    refine br_f (nI_ge hr (by omega)) ?_
    refine pk_loop (fun f' vy (_ : Unit) => wX_applyRules_12 post (wX_applyRules_2 post (nI i) f) (nI i) (nI r) f' (nI vy) (nI n) fT fP fp fc fe (nI nr) fs (nI (hp_k (hp_u Rk i (hp_X n K L R A r0 r1 rc Rk i 256 256 r (4 * vy))) 256)) K L R M A (hp_u Rk i (hp_X n K L R A r0 r1 rc Rk i 256 256 r (4 * vy))) E r0 r1 rc F) (fun _ _ => True) n 0 () (by omega) trivial ?_ ?_
    · intro f' s _
      rw [hu_e (Rk := Rk) (i := i) (fun g => hx_rn (n := n) (K := K) (L := L) (R := R) (A := A) (r0 := r0) (r1 := r1) (rc := rc) (mc := 256) (mt := 256) (r := r) (s := 4 * n) (g := g) (fun x h1 h2 z => by have := z.2; omega))] at nx
      exact br_t (nI_le (Nat.le_refl _) (by omega)) (nm_r (nI_1 r) nx)
    · intro f' vy s hvy _ ny
      have ny := ny () trivial
      refine br_f (nI_ge hvy (by omega)) ?_
      refine pk_loop (fun f'' vx (_ : Unit) => wX_applyRules_23 post (wX_applyRules_2 post (nI i) f) (wX_applyRules_12 post (wX_applyRules_2 post (nI i) f) (nI i) (nI r) f') (nI i) (nI r) (nI vy) f'' (nI vx) (nI n) fT fP fp fc fe (nI nr) fs (nI (hp_k (hp_u Rk i (hp_X n K L R A r0 r1 rc Rk i 256 256 r (4 * vy + vx))) 256)) K L R M A (hp_u Rk i (hp_X n K L R A r0 r1 rc Rk i 256 256 r (4 * vy + vx))) E r0 r1 rc F) (fun _ _ => True) n 0 () (by omega) trivial ?_ ?_
      · intro f'' s _
        rw [hu_e (Rk := Rk) (i := i) (fun g => hx_rs (n := n) (K := K) (L := L) (R := R) (A := A) (r0 := r0) (r1 := r1) (rc := rc) (mc := 256) (mt := 256) (r := r) (s := 4 * vy + n) (s2 := 4 * (vy + 1)) (g := g) (by omega) (fun x h1 h2 h3 z => by have := z.1; omega))] at ny
        exact br_t (nI_le (Nat.le_refl _) (by omega)) (nm_r (nI_1 vy) ny)
      · intro f'' vx s hvx _ nz
        have nz := nz () trivial
        have hV : hp_V n (4 * vy + vx) := ⟨by omega, by omega⟩
        have em : nI vx + 4 * nI vy = nI (4 * vy + vx) := by
          rw [ha_4, nI_add]
          exact congrArg nI (by omega)
        have e2 : (hc * 16 + (4 * vy + vx)) % 16 = 4 * vy + vx := by omega
        obtain ⟨a, a1, a2, a3, a4⟩ := hc_p W C (t := hc * 16 + (4 * vy + vx)) ⟨by omega, by rw [e2]; exact hV⟩
        have ef : ∀ g, g < 256 → (hp_F n A r0 r1 rc Rk i r (4 * vy + vx) g ↔ ((hp_m A Rk i (r0 r) (4 * vy + vx) ∧ hp_m A Rk i (r1 r) (4 * vy + vx)) ∧ g = a)) := fun g hg => by
          unfold hp_F
          rw [ec, nI_clamp (by omega), a2]
          constructor
          · rintro ⟨_, z, y⟩
            exact ⟨y, ha_eq z.symm (by omega) (by omega)⟩
          · rintro ⟨y, rfl⟩
            exact ⟨hV, rfl, y⟩
        have n0 : ¬ (hp_m A Rk i (r0 r) (4 * vy + vx) ∧ hp_m A Rk i (r1 r) (4 * vy + vx)) → ∀ x, x = nI vx + 1 → wX_applyRules_23 post (wX_applyRules_2 post (nI i) f) (wX_applyRules_12 post (wX_applyRules_2 post (nI i) f) (nI i) (nI r) f') (nI i) (nI r) (nI vy) f'' x (nI n) fT fP fp fc fe (nI nr) fs (nI (hp_k (hp_u Rk i (hp_X n K L R A r0 r1 rc Rk i 256 256 r (4 * vy + vx))) 256)) K L R M A (hp_u Rk i (hp_X n K L R A r0 r1 rc Rk i 256 256 r (4 * vy + vx))) E r0 r1 rc F := fun z => by
          have e0 : hp_u Rk i (hp_X n K L R A r0 r1 rc Rk i 256 256 r (4 * vy + (vx + 1))) = hp_u Rk i (hp_X n K L R A r0 r1 rc Rk i 256 256 r (4 * vy + vx)) := by
            refine hu_e (fun g => (hx_r (s := 4 * vy + vx) (fun _ => False) (by omega) (fun g hg => ?_) (fun g y => y.elim)).trans ⟨fun y => y.elim id (fun u => u.elim), Or.inl⟩)
            rw [ef g hg]
            exact ⟨fun y => z y.1, fun y => y.elim⟩
          rw [e0] at nz
          exact nm_r (nI_1 vx) nz
        refine br_f (nI_ge hvx (by omega)) (nm_r em ⟨hin, ?_⟩)
        rw [hcl]
        refine xl_sup W C hG hi o1 (by omega) hV (fun m1 => br_f (by decide) ⟨hin, xl_sup W C hG hi o2 (by omega) hV (fun m2 => br_f (by decide) ⟨hin, ?_⟩) (fun m2 => br_t rfl (n0 (fun z => m2 z.2)))⟩) (fun m1 => br_t rfl (n0 (fun z => m1 z.1)))
        have e1 : rc r * 16 + nI (4 * vy + vx) = nI (hc * 16 + (4 * vy + vx)) := by rw [ec, ha_16, nI_add]
        rw [e1, nI_clamp (n := hc * 16 + (4 * vy + vx)) (by omega), a2]
        refine ⟨vp_in_nI (by omega) (by decide), xl_learn a1 hi ?_⟩
        have e3 : hp_u Rk i (hp_X n K L R A r0 r1 rc Rk i 256 256 r (4 * vy + (vx + 1))) = hp_u Rk i (fun x => hp_X n K L R A r0 r1 rc Rk i 256 256 r (4 * vy + vx) x ∨ x = a) := by
          refine hu_e (fun g => hx_r (s := 4 * vy + vx) (fun x => x = a) (by omega) (fun g hg => ?_) (fun g y => by rw [y]; exact a1))
          rw [ef g hg]
          exact ⟨fun y => y.2, fun y => ⟨⟨m1, m2⟩, y⟩⟩
        rw [e3] at nz
        exact nm_r (nI_1 vx) nz
end HP
