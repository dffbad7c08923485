/-! the reference's derivable -/
section HYD
variable {fN fT fP fc fe fr fs fp fk : Int32} {K L R Ym E r0 r1 rc F Yc Yk : Nat → Int32} {A Rk : Nat → Int32} {n c i g nr : Nat} {D : Nat → Prop} {post : Int32 → Prop}
theorem yl_inK (hG : hp_G A Rk i) (hg : g < 256) (hi : i < 1000) (h1 : hp_H Rk i g → post 1) (h0 : ¬ hp_H Rk i g → post 0) : wpY_inK post (fN, fT, fP, fc, fe, fr, fs, fp, fk, K, L, R, Ym, E, r0, r1, rc, F, A, hp_u Rk i D) (nI g) (nI i) := by
  have hin : vp_in (nI g) 256 := vp_in_nI hg (by decide)
  have hcl : (nI g).toNatClampNeg = g := nI_clamp (by omega)
  rw [← hu_H (D := D) hi] at h1 h0
  refine br_f (nI_pos (by omega)) (br_f (nI_ge (b := 256) hg (by decide)) ⟨hin, ?_⟩)
  rw [hcl]
  rcases hu_v (D := D) hG hg with e | ⟨j, hj, e⟩
  · refine br_t (by rw [e]; decide) (h0 ?_)
    rintro ⟨j, _, e'⟩
    rw [e] at e'
    exact ha_ne1 (by omega) e'.symm
  · refine br_f (by rw [e]; exact nI_pos (by omega)) ⟨hin, ?_⟩
    rw [e]
    by_cases h : i < j
    · refine br_t (nI_lt h (by omega)) (h0 ?_)
      rintro ⟨j', hj', e'⟩
      have := ha_eq (e.symm.trans e') (by omega) (by omega)
      omega
    · exact br_f (nI_nlt (by omega) (by omega)) (h1 ⟨j, by omega, e⟩)
theorem yl_prem {x : Int32} {s : Nat} (W : hp_W n c K L R) (C : hp_C n c K L R A) (hG : hp_G A Rk i) (hi : i < 1000) (hx : x = -1 ∨ ∃ h, h < c ∧ x = nI h) (hs : s < 16) (hV : hp_V n s) (h1 : hp_m A Rk i x s → post 1) (h0 : ¬ hp_m A Rk i x s → post 0) : wpY_premOk post (fN, fT, fP, fc, fe, fr, fs, fp, fk, K, L, R, Ym, E, r0, r1, rc, F, A, hp_u Rk i D) x (nI s) (nI i) := by
  have w := W.2.2.1
  by_cases e : x = -1
  · exact br_t e (h1 (Or.inl e))
  · obtain ⟨h, hh, rfl⟩ := hx.resolve_left e
    have e1 : (nI h * 16 + nI s) &&& 255 = nI (h * 16 + s) := by rw [ha_16, nI_add, ha_a255 (by omega)]
    have e2 : (h * 16 + s) % 16 = s := by omega
    obtain ⟨a, a1, a2, a3, a4⟩ := hc_p W C (t := h * 16 + s) ⟨by omega, by rw [e2]; exact hV⟩
    refine br_f e ?_
    unfold hp_m at h1 h0
    rw [nI_clamp (by omega), a4] at h1 h0
    rw [e1, nI_clamp (by omega), a2]
    exact ⟨vp_in_nI (by omega) (by decide), yl_inK hG a1 hi (fun z => br_f (by decide) (h1 (Or.inr z))) (fun z => br_t rfl (h0 (fun y => y.elim e z)))⟩
theorem yl_fires {r : Nat} (W : hp_W n c K L R) (C : hp_C n c K L R A) (hR : hp_R c nr r0 r1 rc) (hr : r < nr) (h8 : nr ≤ 8) (hG : hp_G A Rk i) (hi : i < 1000) (hg : g < 256)
    (h1 : (∃ s, s < 16 ∧ hp_F n A r0 r1 rc Rk i r s g) → post 1) (h0 : (∀ s, s < 16 → ¬ hp_F n A r0 r1 rc Rk i r s g) → post 0) : wpY_ruleFires post (nI n, fT, fP, fc, fe, fr, fs, fp, fk, K, L, R, Ym, E, r0, r1, rc, F, A, hp_u Rk i D) (nI r) (nI g) (nI i) := by
  have w := W.2.2.1
  have w4 := W.2.1
  have hin : vp_in (nI r) 8 := vp_in_nI (by omega) (by decide)
  have hcl : (nI r).toNatClampNeg = r := nI_clamp (by omega)
  obtain ⟨o1, o2, hc, hcc, ec⟩ := hR r hr
  refine pk_loop (fun f s (_ : Unit) => wY_ruleFires_3 post (nI r) (nI g) (nI i) (nI n) fT fP fc fe fr fs fp fk K L R Ym E r0 r1 rc F A (hp_u Rk i D) f (nI s)) (fun s _ => ∀ t, t < s → ¬ hp_F n A r0 r1 rc Rk i r t g) 16 0 () (by omega) (fun q hq => absurd hq (Nat.not_lt_zero q)) ?_ ?_
  · intro f s hs
    exact br_t (nI_le (a := 16) (b := 16) (by omega) (by decide)) (h0 hs)
  · intro f s _ hs16 hs nx
    have nx : ¬ hp_F n A r0 r1 rc Rk i r s g → ∀ x, x = nI s + 1 → wY_ruleFires_3 post (nI r) (nI g) (nI i) (nI n) fT fP fc fe fr fs fp fk K L R Ym E r0 r1 rc F A (hp_u Rk i D) f x := fun z => nm_r (nI_1 s) (nx () (lt_s hs z))
    refine br_f (nI_ge (b := 16) hs16 (by decide)) (yi_vc w4 hs16 (fun hV => br_f (by decide) ⟨hin, ?_⟩) (fun hV => br_t rfl (nx (fun z => hV z.1))))
    have e1 : (rc r * 16 + nI s) &&& 255 = nI (hc * 16 + s) := by rw [ec, ha_16, nI_add, ha_a255 (by omega)]
    have e2 : (rc r).toNatClampNeg = hc := by rw [ec, nI_clamp (by omega)]
    rw [hcl, e1, nI_clamp (n := hc * 16 + s) (by omega)]
    refine ⟨vp_in_nI (by omega) (by decide), ?_⟩
    by_cases d : A (hc * 16 + s) = nI g
    · refine br_t d ⟨hin, yl_prem W C hG hi o1 hs16 hV (fun m1 => br_f (by decide) ⟨hin, yl_prem W C hG hi o2 hs16 hV (fun m2 => br_f (by decide) (h1 ⟨s, hs16, hV, by rw [e2]; exact d, m1, m2⟩)) (fun m2 => br_t rfl (nx (fun z => m2 z.2.2.2)))⟩) (fun m1 => br_t rfl (nx (fun z => m1 z.2.2.1)))⟩
    · exact br_f d (nx (fun z => d (by rw [← e2]; exact z.2.1)))
theorem yl_220 (W : hp_W n c K L R) (C : hp_C n c K L R A) (hR : hp_R c nr r0 r1 rc) (h8 : nr ≤ 8) (hG : hp_G A Rk i) (hi : i < 1000) (hg : g < 256)
    (h1 : (∃ r s, r < nr ∧ s < 16 ∧ hp_F n A r0 r1 rc Rk i r s g) → post 1) (h0 : (¬ ∃ r s, r < nr ∧ s < 16 ∧ hp_F n A r0 r1 rc Rk i r s g) → post 0) : ∃ f, wY_derivable_220 post (nI g) (nI i) (nI n) fT fP fc fe (nI nr) fs fp fk K L R Ym E r0 r1 rc F A (hp_u Rk i D) f 0 := by
  refine pk_loop (fun f r (_ : Unit) => wY_derivable_220 post (nI g) (nI i) (nI n) fT fP fc fe (nI nr) fs fp fk K L R Ym E r0 r1 rc F A (hp_u Rk i D) f (nI r)) (fun r _ => ∀ t, t < r → ∀ s, s < 16 → ¬ hp_F n A r0 r1 rc Rk i t s g) nr 0 () (by omega) (fun q hq => absurd hq (Nat.not_lt_zero q)) ?_ ?_
  · intro f s hs
    exact br_t (nI_le (Nat.le_refl _) (by omega)) (h0 (fun ⟨r, s, a, b, z⟩ => hs r a s b z))
  · intro f r _ hr hs nx
    refine br_f (nI_ge hr (by omega)) (yl_fires W C hR hr h8 hG hi hg (fun ⟨s, a, z⟩ => br_f (by decide) (h1 ⟨r, s, hr, a, z⟩)) (fun z => br_t rfl (nm_r (nI_1 r) (nx () (lt_s hs z)))))
theorem yl_67 (W : hp_W n c K L R) (C : hp_C n c K L R A) (hR : hp_R c nr r0 r1 rc) (h8 : nr ≤ 8) (hG : hp_G A Rk i) (hi : i < 1000) (hg : g < 256) (hA : A g = nI g) (hc : ¬ hp_c K L R A Rk i g)
    (h1 : hp_D n nr K L R A r0 r1 rc Rk i g → post 1) (h0 : ¬ hp_D n nr K L R A r0 r1 rc Rk i g → post 0) : ∃ f, wY_derivable_67 post (nI g) (nI i) (nI n) fT fP fc fe (nI nr) fs fp fk K L R Ym E r0 r1 rc F A (hp_u Rk i D) f 0 := by
  refine pk_loop (fun f t (_ : Unit) => wY_derivable_67 post (nI g) (nI i) (nI n) fT fP fc fe (nI nr) fs fp fk K L R Ym E r0 r1 rc F A (hp_u Rk i D) f (nI t)) (fun t _ => ∀ t', t' < t → hp_H Rk i t' → ¬ hp_E K L R A Rk i t' g) 256 0 () (by omega) (fun q hq => absurd hq (Nat.not_lt_zero q)) ?_ ?_
  · intro f s hs
    refine br_t (nI_le (a := 256) (b := 256) (by omega) (by decide)) (yl_220 W C hR h8 hG hi hg (fun z => h1 ⟨hg, hA, Or.inr (Or.inr z)⟩) (fun z => h0 ?_))
    rintro ⟨_, _, y | ⟨t, a, _, b, y⟩ | y⟩
    · exact hc y
    · exact hs t a b y
    · exact z y
  · intro f t _ ht hs nx
    have nx : ¬ (hp_H Rk i t ∧ hp_E K L R A Rk i t g) → ∀ x, x = nI t + 1 → wY_derivable_67 post (nI g) (nI i) (nI n) fT fP fc fe (nI nr) fs fp fk K L R Ym E r0 r1 rc F A (hp_u Rk i D) f x := fun z => nm_r (nI_1 t) (nx () (lt_s hs (fun a b => z ⟨a, b⟩)))
    refine br_f (nI_ge (b := 256) ht (by decide)) (yl_inK hG ht hi (fun hH => br_f (by decide) ?_) (fun hH => br_t rfl (nx (fun z => hH z.1))))
    have et : A t = nI t := by
      rcases hG t ht with a | a
      · obtain ⟨j, _, e⟩ := hH
        rw [a] at e
        have := W.2.1
        by_cases hj : j < 1000
        · exact absurd e.symm (ha_ne1 (by omega))
        · omega
      · exact a.1
    have hv := hc_g C ht et
    have yes : hp_E K L R A Rk i t g → post 1 := fun z => h1 ⟨hg, hA, Or.inr (Or.inl ⟨t, ht, et, hH, z⟩)⟩
    have no : ¬ hp_E K L R A Rk i t g → ∀ x, x = nI t + 1 → wY_derivable_67 post (nI g) (nI i) (nI n) fT fP fc fe (nI nr) fs fp fk K L R Ym E r0 r1 rc F A (hp_u Rk i D) f x := fun z => nx (fun y => z y.2)
    have d5 : ∀ m : Int32, ¬ m = 0 → ¬ m = 1 → (hp_kk K t = m ↔ K (t / 16) = m) := fun m a b => hk_i a b
    refine yi_kk ht ?_
    by_cases k2 : K (t / 16) = 2
    · have n5 : ¬ K (t / 16) = 5 := by rw [k2]; decide
      refine br_t ((d5 2 (by decide) (by decide)).mpr k2) (yi_lft W C ht hv (hn_2 k2) ?_)
      by_cases e1 : A (hp_l L t) = nI g
      · exact br_t e1 (yes (Or.inl ⟨k2, Or.inl e1⟩))
      · refine br_f e1 (yi_rgt W C ht hv (hn_2 k2) n5 ?_)
        by_cases e2 : A (hp_l R t) = nI g
        · exact br_t e2 (yes (Or.inl ⟨k2, Or.inr e2⟩))
        · refine br_f e2 (br_f (fun z => ?_) (br_f (fun z => ?_) (no ?_)))
          · rw [d5 3 (by decide) (by decide), k2] at z
            exact absurd z (by decide)
          · rw [d5 4 (by decide) (by decide), k2] at z
            exact absurd z (by decide)
          · rintro (⟨_, z | z⟩ | ⟨z, _⟩ | ⟨z, _⟩)
            · exact e1 z
            · exact e2 z
            · rw [k2] at z; exact absurd z (by decide)
            · rw [k2] at z; exact absurd z (by decide)
    · refine br_f (fun z => k2 ((d5 2 (by decide) (by decide)).mp z)) ?_
      by_cases k3 : K (t / 16) = 3
      · have n5 : ¬ K (t / 16) = 5 := by rw [k3]; decide
        have n4 : ¬ hp_kk K t = 4 := fun z => by
          rw [d5 4 (by decide) (by decide), k3] at z
          exact absurd z (by decide)
        refine br_t ((d5 3 (by decide) (by decide)).mpr k3) (yi_lft W C ht hv (hn_3 k3) ?_)
        by_cases e1 : A (hp_l L t) = nI g
        · obtain ⟨l', b, l1', l2', l3', b1, b2, b3, b4⟩ := hc_r W C hv (hn_3 k3) n5
          refine br_t e1 (yi_rgt W C ht hv (hn_3 k3) n5 ?_)
          rw [b2]
          refine yl_inK hG b1 hi (fun hb => br_f (by decide) (yes (Or.inr (Or.inl ⟨k3, e1, by rw [b4]; exact hb⟩)))) (fun hb => br_t rfl (br_f n4 (no ?_)))
          rintro (⟨z, _⟩ | ⟨_, _, z⟩ | ⟨z, _⟩)
          · exact k2 z
          · rw [b4] at z
            exact hb z
          · rw [k3] at z; exact absurd z (by decide)
        · refine br_f e1 (br_f n4 (no ?_))
          rintro (⟨z, _⟩ | ⟨_, z, _⟩ | ⟨z, _⟩)
          · exact k2 z
          · exact e1 z
          · rw [k3] at z; exact absurd z (by decide)
      · refine br_f (fun z => k3 ((d5 3 (by decide) (by decide)).mp z)) ?_
        by_cases k4 : K (t / 16) = 4
        · have n5 : ¬ K (t / 16) = 5 := by rw [k4]; decide
          refine br_t ((d5 4 (by decide) (by decide)).mpr k4) (yi_lft W C ht hv (hn_4 k4) ?_)
          by_cases e1 : A (hp_l L t) = nI g
          · obtain ⟨l', b, l1', l2', l3', b1, b2, b3, b4⟩ := hc_r W C hv (hn_4 k4) n5
            refine br_t e1 (yi_rgt W C ht hv (hn_4 k4) n5 ?_)
            rw [b2]
            refine br_f (nI_pos (by omega)) (yi_kk b1 ?_)
            by_cases k5 : K (b / 16) = 5
            · obtain ⟨l'', d, l1'', l2'', l3'', d1, d2, d3, d4⟩ := hc_l W C (hc_g C b1 b3) (hn_5 k5)
              refine br_t ((hk_i (by decide) (by decide)).mpr k5) (yi_lft W C b1 (hc_g C b1 b3) (hn_5 k5) ?_)
              rw [d2]
              refine yl_inK hG d1 hi (fun hd => br_f (by decide) (yes (Or.inr (Or.inr ⟨k4, e1, by rw [b4]; exact k5, by rw [b4, d4]; exact hd⟩)))) (fun hd => br_t rfl (no ?_))
              rintro (⟨z, _⟩ | ⟨z, _⟩ | ⟨_, _, _, z⟩)
              · exact k2 z
              · exact k3 z
              · rw [b4, d4] at z
                exact hd z
            · refine br_f (fun z => k5 ((hk_i (by decide) (by decide)).mp z)) (no ?_)
              rintro (⟨z, _⟩ | ⟨z, _⟩ | ⟨_, _, z, _⟩)
              · exact k2 z
              · exact k3 z
              · rw [b4] at z
                exact k5 z
          · refine br_f e1 (no ?_)
            rintro (⟨z, _⟩ | ⟨z, _⟩ | ⟨_, z, _⟩)
            · exact k2 z
            · exact k3 z
            · exact e1 z
        · refine br_f (fun z => k4 ((d5 4 (by decide) (by decide)).mp z)) (no ?_)
          rintro (⟨z, _⟩ | ⟨z, _⟩ | ⟨z, _⟩)
          · exact k2 z
          · exact k3 z
          · exact k4 z
theorem yl_der (W : hp_W n c K L R) (C : hp_C n c K L R A) (hR : hp_R c nr r0 r1 rc) (h8 : nr ≤ 8) (hG : hp_G A Rk i) (hi : i < 1000) (hg : g < 256) (hA : A g = nI g)
    (h1 : hp_D n nr K L R A r0 r1 rc Rk i g → post 1) (h0 : ¬ hp_D n nr K L R A r0 r1 rc Rk i g → post 0) : wpY_derivable post (nI n, fT, fP, fc, fe, nI nr, fs, fp, fk, K, L, R, Ym, E, r0, r1, rc, F, A, hp_u Rk i D) (nI g) (nI i) := by
  have hv := hc_g C hg hA
  have go : ¬ hp_c K L R A Rk i g → ∃ f, wY_derivable_67 post (nI g) (nI i) (nI n) fT fP fc fe (nI nr) fs fp fk K L R Ym E r0 r1 rc F A (hp_u Rk i D) f 0 := fun z => yl_67 W C hR h8 hG hi hg hA z h1 h0
  have yes : hp_c K L R A Rk i g → post 1 := fun z => h1 ⟨hg, hA, Or.inl z⟩
  unfold wpY_derivable
  refine yi_kk hg ?_
  by_cases k0 : K (g / 16) = 0
  · have e : hp_kk K g = 0 := hk_1 (Or.inl k0)
    rw [e]
    exact br_t (by decide) (br_f (by decide) (go (fun z => z.2.1 (Or.inl k0))))
  · have na : ¬ hp_a K g := fun z => z.elim k0 (hc_nv W C hg hA)
    rw [hk_2 na]
    obtain ⟨l, a, l1, l2, l3, a1, a2, a3, a4⟩ := hc_l W C hv na
    rcases (hw_na na W hv.1).2.2 with ⟨k5, _⟩ | ⟨k234, _⟩
    · refine br_f (by rw [k5]; decide) (br_t (by rw [k5]; decide) (br_t k5 (yi_lft W C hg hv na ?_)))
      rw [a2]
      exact yl_inK hG a1 hi (fun hh => br_f (by decide) (yes ⟨hA, na, by rw [a4]; exact hh, Or.inl k5⟩)) (fun hh => br_t rfl (go (fun z => hh (by rw [← a4]; exact z.2.2.1))))
    · have n5 : ¬ K (g / 16) = 5 := by rcases k234 with e | e | e <;> rw [e] <;> decide
      have n2 : ¬ K (g / 16) < 2 := by rcases k234 with e | e | e <;> rw [e] <;> decide
      have n4 : ¬ (4 : Int32) < K (g / 16) := by rcases k234 with e | e | e <;> rw [e] <;> decide
      obtain ⟨l', b, l1', l2', l3', b1, b2, b3, b4⟩ := hc_r W C hv na n5
      refine br_f n2 (br_f n4 (yi_lft W C hg hv na ?_))
      rw [a2]
      refine yl_inK hG a1 hi (fun hh => br_f (by decide) (yi_rgt W C hg hv na n5 ?_)) (fun hh => br_t rfl (br_f n5 (go (fun z => hh (by rw [← a4]; exact z.2.2.1)))))
      rw [b2]
      exact yl_inK hG b1 hi (fun hb => br_f (by decide) (yes ⟨hA, na, by rw [a4]; exact hh, Or.inr (by rw [b4]; exact hb)⟩)) (fun hb => br_t rfl (br_f n5 (go (fun z => z.2.2.2.elim n5 (fun y => hb (by rw [← b4]; exact y))))))
end HYD
