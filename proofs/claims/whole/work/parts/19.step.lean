/-! step -/
section HT
variable {n tm pm c ne nr ns : Nat} {ph kn : Int32} {K L R M A Z E r0 r1 rc F Ym Yc Yk : Nat → Int32} {q : Nat}
theorem xs_fin {P : Int32 → SX → Prop} {r : Int32} (J : hp_J n tm pm c ne nr ns ph kn K L R M A Z E r0 r1 rc F Ym Yc Yk) (p1 : ph = 1) (hs : ns < pm) (ho : hp_o A r)
    (hP : ∀ ra u', wY_step_458 (fun r' v' => r' = ra ∧ i_Rel q u' v') r (nI n) (nI tm) (nI pm) (nI c) (nI ne) (nI nr) (nI ns) ph kn K L R M E r0 r1 rc F A Yk → P ra u') :
    (r = -1 → P (-10) (nI n, nI tm, nI pm, ph, nI c, nI ne, nI nr, nI ns, kn, K, L, R, M, A, Z, E, r0, r1, rc, F)) ∧ (¬ r = -1 → (vp_in (nI ns) 32 ∧ ∀ a, a = upd F (nI ns).toNatClampNeg r → ∀ x, x = nI ns + 1 → P (nI ns) (nI n, nI tm, nI pm, ph, nI c, nI ne, nI nr, x, kn, K, L, R, M, A, Z, E, r0, r1, rc, a))) := by
  obtain ⟨b1, b2, b3, b4, b5, b6, b7, b8⟩ := hj_b J
  have hin : vp_in (nI ns) 32 := vp_in_nI (by omega) (by decide)
  have hcl : (nI ns).toNatClampNeg = ns := nI_clamp (by omega)
  rcases ho with rfl | ⟨g, g1, rfl, g3⟩
  · exact br_t rfl (hP _ _ (br_f (by decide) ⟨rfl, hj_mk (hj_ref J)⟩))
  · refine br_f (ha_ne1 (by omega)) ⟨hin, nm_r (e' := upd F ns (nI g)) (by rw [hcl]) (nm_r (nI_1 ns) (hP _ _ (br_t (nI_pos' (by omega)) ⟨hin, nm_r (e' := upd F ns (nI g)) (by rw [hcl]) (nm_r (nI_1 ns) ⟨nI_pred ns, ?_⟩)⟩)))⟩
    refine hj_mk ⟨⟨J.1.1, b2, b3, b4, b5, b6, b7, by omega⟩, J.2.1, ⟨J.2.2.1.1, J.2.2.1.2.1, ?_⟩, ⟨J.2.1.2.1, J.2.1.2.2.2⟩, Or.inr (J.2.2.2.2.elim (fun z => absurd (p1.symm.trans z.1) (by decide)) id)⟩
    intro j hj
    by_cases e : j = ns
    · subst e
      exact ⟨g, g1, pk_us, g3⟩
    · rw [pk_un e]
      exact J.2.2.1.2.2 j (by omega)
theorem xi_rr {post : Int32 → Prop} {i : Nat} {v3 v4 : Int32} (hi : i < nr) (h8 : nr ≤ 8) (h32 : ns ≤ 32) (h0 : (¬ r0 i = -1 → ∃ j, j < ns ∧ v3 = nI j) → (¬ r1 i = -1 → ∃ j, j < ns ∧ v4 = nI j) → post 0)
    (h3 : ¬ r0 i = -1 → (v3 < 0 ∨ nI ns ≤ v3) → post (-9)) (h4 : (¬ r0 i = -1 → ∃ j, j < ns ∧ v3 = nI j) → ¬ r1 i = -1 → (v4 < 0 ∨ nI ns ≤ v4) → post (-9)) : wpX_ruleRefusal post (nI n, nI tm, nI pm, ph, nI c, nI ne, nI nr, nI ns, kn, K, L, R, M, A, Z, E, r0, r1, rc, F) (nI i) v3 v4 := by
  have hii : vp_in (nI i) 8 := vp_in_nI (by omega) (by decide)
  have ci : (nI i).toNatClampNeg = i := nI_clamp (by omega)
  have main : (¬ r0 i = -1 → ∃ j, j < ns ∧ v3 = nI j) → wX_ruleRefusal_36 post (nI i) v4 (nI n) (nI tm) (nI pm) ph (nI c) (nI ne) (nI nr) (nI ns) kn K L R M A Z E r0 r1 rc F := fun g3 => by
    refine ⟨hii, ?_⟩
    rw [ci]
    by_cases e : r1 i = -1
    · exact br_t e (h0 g3 (fun z => absurd e z))
    · rcases hp_ix v4 (c := ns) (by omega) with ⟨j, hj, rfl⟩ | h5
      · exact br_f e (xi_s1 hj (by omega) (br_f (by decide) (h0 g3 (fun _ => ⟨j, hj, rfl⟩))))
      · exact br_f e (xi_s0 h5 (br_t rfl (h4 g3 e h5)))
  refine hb_i2 hi (by omega) ⟨hii, ?_⟩
  rw [ci]
  by_cases e : r0 i = -1
  · exact br_t e (main (fun z => absurd e z))
  · rcases hp_ix v3 (c := ns) (by omega) with ⟨j, hj, rfl⟩ | h5
    · exact br_f e (xi_s1 hj (by omega) (br_f (by decide) (main (fun _ => ⟨j, hj, rfl⟩))))
    · exact br_f e (xi_s0 h5 (br_t rfl (h3 e h5)))
theorem xi_rr0 {post : Int32 → Prop} {v2 v3 v4 : Int32} (h : v2 < 0 ∨ nI nr ≤ v2) (hp : post (-4)) : wpX_ruleRefusal post (nI n, nI tm, nI pm, ph, nI c, nI ne, nI nr, nI ns, kn, K, L, R, M, A, Z, E, r0, r1, rc, F) v2 v3 v4 := hb_o2 h hp
theorem hj_hv (J : hp_J n tm pm c ne nr ns ph kn K L R M A Z E r0 r1 rc F Ym Yc Yk) : ∀ g, g < 256 → A g = nI g → g / 16 < c := fun g hg e => (hc_g J.2.1.1 hg e).1
theorem sx_1 (J : hp_J n tm pm c ne nr ns ph kn K L R M A Z E r0 r1 rc F Ym Yc Yk) (p1 : ph = 1) (hs : ns < pm) (v2 v3 v4 : Int32) : wpX_step (fun r u' => wpY_step (fun r' v' => r' = r ∧ i_Rel q u' v') (nI n, nI tm, nI pm, nI c, nI ne, nI nr, nI ns, ph, kn, K, L, R, Ym, E, r0, r1, rc, F, Yc, Yk) (nI 1) v2 v3 v4) (nI n, nI tm, nI pm, ph, nI c, nI ne, nI nr, nI ns, kn, K, L, R, M, A, Z, E, r0, r1, rc, F) (nI 1) v2 v3 v4 := by
  obtain ⟨b1, b2, b3, b4, b5, b6, b7, b8⟩ := hj_b J
  have q0 : ¬ ph = 0 := by rw [p1]; decide
  have hlt : nI ns < nI pm := nI_lt hs (by omega)
  have W := J.1.1
  have C := J.2.1.1
  have I' := hj_mk (k := q) J
  refine br_f q0 (br_t hlt (br_f (by decide) (br_t (by decide) ?_)))
  refine br_f (by decide) (br_f (by decide) (br_f (by decide) (br_t rfl (?_))))
  have hy : ∀ post : Int32 → SY → Prop, wY_step_110 post (nI 1) v2 v3 v4 (nI n) (nI tm) (nI pm) (nI c) (nI ne) (nI nr) (nI ns) ph kn K L R Ym E r0 r1 rc F Yc Yk → wpY_step post (nI n, nI tm, nI pm, nI c, nI ne, nI nr, nI ns, ph, kn, K, L, R, Ym, E, r0, r1, rc, F, Yc, Yk) (nI 1) v2 v3 v4 := fun post h => br_f q0 (br_t hlt (br_f (by decide) (br_t (by decide) (br_f (by decide) (br_f (by decide) (br_f (by decide) (br_f (by decide) (br_t rfl (h)))))))))
  rcases hp_ix v2 (c := ns) (by omega) with ⟨i, hi, rfl⟩ | h2
  · rcases hp_ix v3 (c := ns) (by omega) with ⟨j, hj, rfl⟩ | h3
    · have hii : vp_in (nI i) 32 := vp_in_nI (by omega) (by decide)
      have hij : vp_in (nI j) 32 := vp_in_nI (by omega) (by decide)
      have ci : (nI i).toNatClampNeg = i := nI_clamp (by omega)
      have cj : (nI j).toNatClampNeg = j := nI_clamp (by omega)
      have h196 : ∀ post : Int32 → SY → Prop, wY_step_196 post (nI 1) (nI i) (nI j) v4 (nI n) (nI tm) (nI pm) (nI c) (nI ne) (nI nr) (nI ns) ph kn K L R Ym E r0 r1 rc F Yc Yk → wpY_step post (nI n, nI tm, nI pm, nI c, nI ne, nI nr, nI ns, ph, kn, K, L, R, Ym, E, r0, r1, rc, F, Yc, Yk) (nI 1) (nI i) (nI j) v4 := fun post h => hy _ (yi_s1 hi (by omega) (br_f (by decide) (yi_s1 hj (by omega) (br_f (by decide) (br_f (by decide) h)))))
      refine xi_s1 hi (by omega) (br_f (by decide) (xi_s1 hj (by omega) (br_f (by decide) (br_t (by decide) ?_))))
      obtain ⟨r, hr⟩ := hr_ex (K := K) (L := L) (R := R) (A := A) 2 (F i) (F j)
      refine br_f (by decide) (br_f (by decide) (br_f (by decide) (br_t rfl (⟨hii, hij, ?_⟩))))
      rw [ci, cj]
      refine xi_find W (hj_hv J) (by decide) (fun z => absurd z (by decide)) hr (xs_fin (q := q) (P := fun r u' => wpY_step (fun r' v' => r' = r ∧ i_Rel q u' v') (nI n, nI tm, nI pm, nI c, nI ne, nI nr, nI ns, ph, kn, K, L, R, Ym, E, r0, r1, rc, F, Yc, Yk) (nI 1) (nI i) (nI j) v4) J p1 hs (ho_r hr) (fun ra u' h => ?_))
      refine h196 _ (yj_ref J (br_f (by decide) (br_f (by decide) (br_t rfl (⟨hii, hij, ?_⟩)))))
      rw [ci, cj, show (nI 1 : Int32) + 1 = 2 from by decide]
      exact yi_fcomp W C (by decide) (by decide) hr h
    · exact xi_s1 hi (by omega) (br_f (by decide) (xi_s0 h3 (br_t rfl (br_f (by decide) (hy _ (yi_s1 hi (by omega) (br_f (by decide) (yi_s0 h3 (br_t rfl ⟨rfl, I'⟩)))))))))
  · exact xi_s0 h2 (br_t rfl (br_f (by decide) (hy _ (yi_s0 h2 (br_t rfl ⟨rfl, I'⟩)))))
theorem sx_2 (J : hp_J n tm pm c ne nr ns ph kn K L R M A Z E r0 r1 rc F Ym Yc Yk) (p1 : ph = 1) (hs : ns < pm) (v2 v3 v4 : Int32) : wpX_step (fun r u' => wpY_step (fun r' v' => r' = r ∧ i_Rel q u' v') (nI n, nI tm, nI pm, nI c, nI ne, nI nr, nI ns, ph, kn, K, L, R, Ym, E, r0, r1, rc, F, Yc, Yk) (nI 2) v2 v3 v4) (nI n, nI tm, nI pm, ph, nI c, nI ne, nI nr, nI ns, kn, K, L, R, M, A, Z, E, r0, r1, rc, F) (nI 2) v2 v3 v4 := by
  obtain ⟨b1, b2, b3, b4, b5, b6, b7, b8⟩ := hj_b J
  have q0 : ¬ ph = 0 := by rw [p1]; decide
  have hlt : nI ns < nI pm := nI_lt hs (by omega)
  have W := J.1.1
  have C := J.2.1.1
  have I' := hj_mk (k := q) J
  refine br_f q0 (br_t hlt (br_f (by decide) (br_t (by decide) ?_)))
  refine br_f (by decide) (br_f (by decide) (br_f (by decide) (br_f (by decide) (br_t rfl (?_)))))
  have hy : ∀ post : Int32 → SY → Prop, wY_step_110 post (nI 2) v2 v3 v4 (nI n) (nI tm) (nI pm) (nI c) (nI ne) (nI nr) (nI ns) ph kn K L R Ym E r0 r1 rc F Yc Yk → wpY_step post (nI n, nI tm, nI pm, nI c, nI ne, nI nr, nI ns, ph, kn, K, L, R, Ym, E, r0, r1, rc, F, Yc, Yk) (nI 2) v2 v3 v4 := fun post h => br_f q0 (br_t hlt (br_f (by decide) (br_t (by decide) (br_f (by decide) (br_f (by decide) (br_f (by decide) (br_f (by decide) (br_f (by decide) (br_t rfl (h))))))))))
  rcases hp_ix v2 (c := ns) (by omega) with ⟨i, hi, rfl⟩ | h2
  · rcases hp_ix v3 (c := ns) (by omega) with ⟨j, hj, rfl⟩ | h3
    · have hii : vp_in (nI i) 32 := vp_in_nI (by omega) (by decide)
      have hij : vp_in (nI j) 32 := vp_in_nI (by omega) (by decide)
      have ci : (nI i).toNatClampNeg = i := nI_clamp (by omega)
      have cj : (nI j).toNatClampNeg = j := nI_clamp (by omega)
      have h196 : ∀ post : Int32 → SY → Prop, wY_step_196 post (nI 2) (nI i) (nI j) v4 (nI n) (nI tm) (nI pm) (nI c) (nI ne) (nI nr) (nI ns) ph kn K L R Ym E r0 r1 rc F Yc Yk → wpY_step post (nI n, nI tm, nI pm, nI c, nI ne, nI nr, nI ns, ph, kn, K, L, R, Ym, E, r0, r1, rc, F, Yc, Yk) (nI 2) (nI i) (nI j) v4 := fun post h => hy _ (yi_s1 hi (by omega) (br_f (by decide) (yi_s1 hj (by omega) (br_f (by decide) (br_f (by decide) h)))))
      refine xi_s1 hi (by omega) (br_f (by decide) (xi_s1 hj (by omega) (br_f (by decide) (br_t (by decide) ?_))))
      obtain ⟨r, hr⟩ := hr_ex (K := K) (L := L) (R := R) (A := A) 3 (F i) (F j)
      refine br_f (by decide) (br_f (by decide) (br_f (by decide) (br_f (by decide) (br_t rfl (⟨hii, hij, ?_⟩)))))
      rw [ci, cj]
      refine xi_find W (hj_hv J) (by decide) (fun z => absurd z (by decide)) hr (xs_fin (q := q) (P := fun r u' => wpY_step (fun r' v' => r' = r ∧ i_Rel q u' v') (nI n, nI tm, nI pm, nI c, nI ne, nI nr, nI ns, ph, kn, K, L, R, Ym, E, r0, r1, rc, F, Yc, Yk) (nI 2) (nI i) (nI j) v4) J p1 hs (ho_r hr) (fun ra u' h => ?_))
      refine h196 _ (yj_ref J (br_f (by decide) (br_f (by decide) (br_f (by decide) (br_t rfl (⟨hii, hij, ?_⟩))))))
      rw [ci, cj, show (nI 2 : Int32) + 1 = 3 from by decide]
      exact yi_fcomp W C (by decide) (by decide) hr h
    · exact xi_s1 hi (by omega) (br_f (by decide) (xi_s0 h3 (br_t rfl (br_f (by decide) (hy _ (yi_s1 hi (by omega) (br_f (by decide) (yi_s0 h3 (br_t rfl ⟨rfl, I'⟩)))))))))
  · exact xi_s0 h2 (br_t rfl (br_f (by decide) (hy _ (yi_s0 h2 (br_t rfl ⟨rfl, I'⟩)))))
theorem sx_3 (J : hp_J n tm pm c ne nr ns ph kn K L R M A Z E r0 r1 rc F Ym Yc Yk) (p1 : ph = 1) (hs : ns < pm) (v2 v3 v4 : Int32) : wpX_step (fun r u' => wpY_step (fun r' v' => r' = r ∧ i_Rel q u' v') (nI n, nI tm, nI pm, nI c, nI ne, nI nr, nI ns, ph, kn, K, L, R, Ym, E, r0, r1, rc, F, Yc, Yk) (nI 3) v2 v3 v4) (nI n, nI tm, nI pm, ph, nI c, nI ne, nI nr, nI ns, kn, K, L, R, M, A, Z, E, r0, r1, rc, F) (nI 3) v2 v3 v4 := by
  obtain ⟨b1, b2, b3, b4, b5, b6, b7, b8⟩ := hj_b J
  have q0 : ¬ ph = 0 := by rw [p1]; decide
  have hlt : nI ns < nI pm := nI_lt hs (by omega)
  have W := J.1.1
  have C := J.2.1.1
  have I' := hj_mk (k := q) J
  refine br_f q0 (br_t hlt (br_f (by decide) (br_t (by decide) ?_)))
  refine br_f (by decide) (br_f (by decide) (br_f (by decide) (br_f (by decide) (br_f (by decide) (br_t rfl (?_))))))
  have hy : ∀ post : Int32 → SY → Prop, wY_step_110 post (nI 3) v2 v3 v4 (nI n) (nI tm) (nI pm) (nI c) (nI ne) (nI nr) (nI ns) ph kn K L R Ym E r0 r1 rc F Yc Yk → wpY_step post (nI n, nI tm, nI pm, nI c, nI ne, nI nr, nI ns, ph, kn, K, L, R, Ym, E, r0, r1, rc, F, Yc, Yk) (nI 3) v2 v3 v4 := fun post h => br_f q0 (br_t hlt (br_f (by decide) (br_t (by decide) (br_f (by decide) (br_f (by decide) (br_f (by decide) (br_f (by decide) (br_f (by decide) (br_f (by decide) (br_t rfl (h)))))))))))
  rcases hp_ix v2 (c := ns) (by omega) with ⟨i, hi, rfl⟩ | h2
  · rcases hp_ix v3 (c := ns) (by omega) with ⟨j, hj, rfl⟩ | h3
    · have hii : vp_in (nI i) 32 := vp_in_nI (by omega) (by decide)
      have hij : vp_in (nI j) 32 := vp_in_nI (by omega) (by decide)
      have ci : (nI i).toNatClampNeg = i := nI_clamp (by omega)
      have cj : (nI j).toNatClampNeg = j := nI_clamp (by omega)
      have h196 : ∀ post : Int32 → SY → Prop, wY_step_196 post (nI 3) (nI i) (nI j) v4 (nI n) (nI tm) (nI pm) (nI c) (nI ne) (nI nr) (nI ns) ph kn K L R Ym E r0 r1 rc F Yc Yk → wpY_step post (nI n, nI tm, nI pm, nI c, nI ne, nI nr, nI ns, ph, kn, K, L, R, Ym, E, r0, r1, rc, F, Yc, Yk) (nI 3) (nI i) (nI j) v4 := fun post h => hy _ (yi_s1 hi (by omega) (br_f (by decide) (yi_s1 hj (by omega) (br_f (by decide) (br_f (by decide) h)))))
      refine xi_s1 hi (by omega) (br_f (by decide) (xi_s1 hj (by omega) (br_f (by decide) (br_t (by decide) ?_))))
      obtain ⟨r, hr⟩ := hr_ex (K := K) (L := L) (R := R) (A := A) 4 (F i) (F j)
      refine br_f (by decide) (br_f (by decide) (br_f (by decide) (br_f (by decide) (br_f (by decide) (br_t rfl (⟨hii, hij, ?_⟩))))))
      rw [ci, cj]
      refine xi_find W (hj_hv J) (by decide) (fun z => absurd z (by decide)) hr (xs_fin (q := q) (P := fun r u' => wpY_step (fun r' v' => r' = r ∧ i_Rel q u' v') (nI n, nI tm, nI pm, nI c, nI ne, nI nr, nI ns, ph, kn, K, L, R, Ym, E, r0, r1, rc, F, Yc, Yk) (nI 3) (nI i) (nI j) v4) J p1 hs (ho_r hr) (fun ra u' h => ?_))
      refine h196 _ (yj_ref J (br_f (by decide) (br_f (by decide) (br_f (by decide) (br_f (by decide) (br_t rfl (⟨hii, hij, ?_⟩)))))))
      rw [ci, cj, show (nI 3 : Int32) + 1 = 4 from by decide]
      exact yi_fcomp W C (by decide) (by decide) hr h
    · exact xi_s1 hi (by omega) (br_f (by decide) (xi_s0 h3 (br_t rfl (br_f (by decide) (hy _ (yi_s1 hi (by omega) (br_f (by decide) (yi_s0 h3 (br_t rfl ⟨rfl, I'⟩)))))))))
  · exact xi_s0 h2 (br_t rfl (br_f (by decide) (hy _ (yi_s0 h2 (br_t rfl ⟨rfl, I'⟩)))))
theorem sx_4 (J : hp_J n tm pm c ne nr ns ph kn K L R M A Z E r0 r1 rc F Ym Yc Yk) (p1 : ph = 1) (hs : ns < pm) (v2 v3 v4 : Int32) : wpX_step (fun r u' => wpY_step (fun r' v' => r' = r ∧ i_Rel q u' v') (nI n, nI tm, nI pm, nI c, nI ne, nI nr, nI ns, ph, kn, K, L, R, Ym, E, r0, r1, rc, F, Yc, Yk) (nI 4) v2 v3 v4) (nI n, nI tm, nI pm, ph, nI c, nI ne, nI nr, nI ns, kn, K, L, R, M, A, Z, E, r0, r1, rc, F) (nI 4) v2 v3 v4 := by
  obtain ⟨b1, b2, b3, b4, b5, b6, b7, b8⟩ := hj_b J
  have q0 : ¬ ph = 0 := by rw [p1]; decide
  have hlt : nI ns < nI pm := nI_lt hs (by omega)
  have W := J.1.1
  have C := J.2.1.1
  have I' := hj_mk (k := q) J
  refine br_f q0 (br_t hlt (br_f (by decide) (br_t (by decide) ?_)))
  refine br_f (by decide) (br_f (by decide) (br_f (by decide) (br_f (by decide) (br_f (by decide) (br_f (by decide) (br_t rfl (?_)))))))
  have hy : ∀ post : Int32 → SY → Prop, wY_step_72 post (nI 4) v2 v3 v4 (nI n) (nI tm) (nI pm) (nI c) (nI ne) (nI nr) (nI ns) ph kn K L R Ym E r0 r1 rc F Yc Yk → wpY_step post (nI n, nI tm, nI pm, nI c, nI ne, nI nr, nI ns, ph, kn, K, L, R, Ym, E, r0, r1, rc, F, Yc, Yk) (nI 4) v2 v3 v4 := fun post h => br_f q0 (br_t hlt (br_f (by decide) (br_t (by decide) (br_f (by decide) (br_t rfl (h))))))
  rcases hp_ix v2 (c := ns) (by omega) with ⟨i, hi, rfl⟩ | h2
  · have hii : vp_in (nI i) 32 := vp_in_nI (by omega) (by decide)
    have ci : (nI i).toNatClampNeg = i := nI_clamp (by omega)
    have h196 : ∀ post : Int32 → SY → Prop, wY_step_196 post (nI 4) (nI i) v3 v4 (nI n) (nI tm) (nI pm) (nI c) (nI ne) (nI nr) (nI ns) ph kn K L R Ym E r0 r1 rc F Yc Yk → wpY_step post (nI n, nI tm, nI pm, nI c, nI ne, nI nr, nI ns, ph, kn, K, L, R, Ym, E, r0, r1, rc, F, Yc, Yk) (nI 4) (nI i) v3 v4 := fun post h => hy _ (yi_s1 hi (by omega) (br_f (by decide) (br_f (by decide) (br_f (by decide) (br_f (by decide) (br_f (by decide) (br_f (by decide) (br_f (by decide) h))))))))
    refine xi_s1 hi (by omega) (br_f (by decide) (br_t (by decide) ?_))
    obtain ⟨r, hr⟩ := hr_ex (K := K) (L := L) (R := R) (A := A) 5 (F i) (-1)
    refine br_f (by decide) (br_f (by decide) (br_f (by decide) (br_f (by decide) (br_f (by decide) (br_f (by decide) (br_t rfl (⟨hii, ?_⟩)))))))
    rw [ci]
    refine xi_find W (hj_hv J) (by decide) (fun _ => rfl) hr (xs_fin (q := q) (P := fun r u' => wpY_step (fun r' v' => r' = r ∧ i_Rel q u' v') (nI n, nI tm, nI pm, nI c, nI ne, nI nr, nI ns, ph, kn, K, L, R, Ym, E, r0, r1, rc, F, Yc, Yk) (nI 4) (nI i) v3 v4) J p1 hs (ho_r hr) (fun ra u' h => ?_))
    refine h196 _ (yj_ref J (br_f (by decide) (br_f (by decide) (br_f (by decide) (br_f (by decide) (br_f (by decide) (br_t rfl (⟨hii, ?_⟩))))))))
    rw [ci]
    exact yi_fcomp W C (by decide) (by decide) hr h
  · exact xi_s0 h2 (br_t rfl (br_f (by decide) (hy _ (yi_s0 h2 (br_t rfl ⟨rfl, I'⟩)))))
theorem sx_5 (J : hp_J n tm pm c ne nr ns ph kn K L R M A Z E r0 r1 rc F Ym Yc Yk) (p1 : ph = 1) (hs : ns < pm) (v2 v3 v4 : Int32) : wpX_step (fun r u' => wpY_step (fun r' v' => r' = r ∧ i_Rel q u' v') (nI n, nI tm, nI pm, nI c, nI ne, nI nr, nI ns, ph, kn, K, L, R, Ym, E, r0, r1, rc, F, Yc, Yk) (nI 5) v2 v3 v4) (nI n, nI tm, nI pm, ph, nI c, nI ne, nI nr, nI ns, kn, K, L, R, M, A, Z, E, r0, r1, rc, F) (nI 5) v2 v3 v4 := by
  obtain ⟨b1, b2, b3, b4, b5, b6, b7, b8⟩ := hj_b J
  have q0 : ¬ ph = 0 := by rw [p1]; decide
  have hlt : nI ns < nI pm := nI_lt hs (by omega)
  have W := J.1.1
  have C := J.2.1.1
  have I' := hj_mk (k := q) J
  refine br_f q0 (br_t hlt (br_f (by decide) (br_t (by decide) ?_)))
  refine br_f (by decide) (br_f (by decide) (br_f (by decide) (br_f (by decide) (br_f (by decide) (br_f (by decide) (br_f (by decide) (br_t rfl (?_))))))))
  have hy : ∀ post : Int32 → SY → Prop, wY_step_72 post (nI 5) v2 v3 v4 (nI n) (nI tm) (nI pm) (nI c) (nI ne) (nI nr) (nI ns) ph kn K L R Ym E r0 r1 rc F Yc Yk → wpY_step post (nI n, nI tm, nI pm, nI c, nI ne, nI nr, nI ns, ph, kn, K, L, R, Ym, E, r0, r1, rc, F, Yc, Yk) (nI 5) v2 v3 v4 := fun post h => br_f q0 (br_t hlt (br_f (by decide) (br_t (by decide) (br_f (by decide) (br_f (by decide) (br_t rfl (h)))))))
  rcases hp_ix v2 (c := ns) (by omega) with ⟨i, hi, rfl⟩ | h2
  · have hii : vp_in (nI i) 32 := vp_in_nI (by omega) (by decide)
    have ci : (nI i).toNatClampNeg = i := nI_clamp (by omega)
    have h196 : ∀ post : Int32 → SY → Prop, wY_step_196 post (nI 5) (nI i) v3 v4 (nI n) (nI tm) (nI pm) (nI c) (nI ne) (nI nr) (nI ns) ph kn K L R Ym E r0 r1 rc F Yc Yk → wpY_step post (nI n, nI tm, nI pm, nI c, nI ne, nI nr, nI ns, ph, kn, K, L, R, Ym, E, r0, r1, rc, F, Yc, Yk) (nI 5) (nI i) v3 v4 := fun post h => hy _ (yi_s1 hi (by omega) (br_f (by decide) (br_f (by decide) (br_f (by decide) (br_f (by decide) (br_f (by decide) (br_f (by decide) (br_f (by decide) h))))))))
    refine xi_s1 hi (by omega) (br_f (by decide) (br_t (by decide) ?_))
    obtain ⟨f, hf, ef, af⟩ := J.2.2.1.2.2 i hi
    have hv := hc_g C hf af
    refine br_f (by decide) (br_f (by decide) (br_f (by decide) (br_f (by decide) (br_f (by decide) (br_f (by decide) (br_f (by decide) (br_t rfl (⟨hii, ?_⟩))))))))
    rw [ci, ef]
    by_cases k2 : K (f / 16) = 2
    · obtain ⟨l, x, _, _, _, x1, x2, x3, _⟩ := hc_l W C hv (hn_2 k2)
      refine xi_knd hf (fun _ => br_f (by decide) ⟨hii, xi_lft W C hf hv (hn_2 k2) (xs_fin (q := q) (P := fun r u' => wpY_step (fun r' v' => r' = r ∧ i_Rel q u' v') (nI n, nI tm, nI pm, nI c, nI ne, nI nr, nI ns, ph, kn, K, L, R, Ym, E, r0, r1, rc, F, Yc, Yk) (nI 5) (nI i) v3 v4) J p1 hs (Or.inr ⟨x, x1, x2, x3⟩) (fun ra u' h => h196 _ (yj_ref J (br_f (by decide) (br_f (by decide) (br_f (by decide) (br_f (by decide) (br_f (by decide) (br_f (by decide) (⟨hii, nm_r (e' := nI f) (by rw [ci, ef]) (yi_kk hf (br_t rfl (br_t ((hk_i (by decide) (by decide)).mpr k2) (yi_lft W C hf hv (hn_2 k2) (br_f (by decide) (br_f (by decide) (br_f (by decide) (h))))))))⟩))))))))))⟩) (fun z => absurd k2 z)
    · refine xi_knd hf (fun z => absurd z k2) (fun _ => br_t rfl (xs_fin (q := q) (P := fun r u' => wpY_step (fun r' v' => r' = r ∧ i_Rel q u' v') (nI n, nI tm, nI pm, nI c, nI ne, nI nr, nI ns, ph, kn, K, L, R, Ym, E, r0, r1, rc, F, Yc, Yk) (nI 5) (nI i) v3 v4) J p1 hs (Or.inl rfl) (fun ra u' h => h196 _ (yj_ref J (br_f (by decide) (br_f (by decide) (br_f (by decide) (br_f (by decide) (br_f (by decide) (br_f (by decide) (⟨hii, nm_r (e' := nI f) (by rw [ci, ef]) (yi_kk hf (br_t rfl (br_f (fun z => k2 ((hk_i (by decide) (by decide)).mp z)) (br_f (by decide) (br_f (by decide) (br_f (by decide) (h)))))))⟩)))))))))))
  · exact xi_s0 h2 (br_t rfl (br_f (by decide) (hy _ (yi_s0 h2 (br_t rfl ⟨rfl, I'⟩)))))
theorem sx_6 (J : hp_J n tm pm c ne nr ns ph kn K L R M A Z E r0 r1 rc F Ym Yc Yk) (p1 : ph = 1) (hs : ns < pm) (v2 v3 v4 : Int32) : wpX_step (fun r u' => wpY_step (fun r' v' => r' = r ∧ i_Rel q u' v') (nI n, nI tm, nI pm, nI c, nI ne, nI nr, nI ns, ph, kn, K, L, R, Ym, E, r0, r1, rc, F, Yc, Yk) (nI 6) v2 v3 v4) (nI n, nI tm, nI pm, ph, nI c, nI ne, nI nr, nI ns, kn, K, L, R, M, A, Z, E, r0, r1, rc, F) (nI 6) v2 v3 v4 := by
  obtain ⟨b1, b2, b3, b4, b5, b6, b7, b8⟩ := hj_b J
  have q0 : ¬ ph = 0 := by rw [p1]; decide
  have hlt : nI ns < nI pm := nI_lt hs (by omega)
  have W := J.1.1
  have C := J.2.1.1
  have I' := hj_mk (k := q) J
  refine br_f q0 (br_t hlt (br_f (by decide) (br_t (by decide) ?_)))
  refine br_f (by decide) (br_f (by decide) (br_f (by decide) (br_f (by decide) (br_f (by decide) (br_f (by decide) (br_f (by decide) (br_f (by decide) (br_t rfl (?_)))))))))
  have hy : ∀ post : Int32 → SY → Prop, wY_step_72 post (nI 6) v2 v3 v4 (nI n) (nI tm) (nI pm) (nI c) (nI ne) (nI nr) (nI ns) ph kn K L R Ym E r0 r1 rc F Yc Yk → wpY_step post (nI n, nI tm, nI pm, nI c, nI ne, nI nr, nI ns, ph, kn, K, L, R, Ym, E, r0, r1, rc, F, Yc, Yk) (nI 6) v2 v3 v4 := fun post h => br_f q0 (br_t hlt (br_f (by decide) (br_t (by decide) (br_f (by decide) (br_f (by decide) (br_f (by decide) (br_t rfl (h))))))))
  rcases hp_ix v2 (c := ns) (by omega) with ⟨i, hi, rfl⟩ | h2
  · have hii : vp_in (nI i) 32 := vp_in_nI (by omega) (by decide)
    have ci : (nI i).toNatClampNeg = i := nI_clamp (by omega)
    have h196 : ∀ post : Int32 → SY → Prop, wY_step_196 post (nI 6) (nI i) v3 v4 (nI n) (nI tm) (nI pm) (nI c) (nI ne) (nI nr) (nI ns) ph kn K L R Ym E r0 r1 rc F Yc Yk → wpY_step post (nI n, nI tm, nI pm, nI c, nI ne, nI nr, nI ns, ph, kn, K, L, R, Ym, E, r0, r1, rc, F, Yc, Yk) (nI 6) (nI i) v3 v4 := fun post h => hy _ (yi_s1 hi (by omega) (br_f (by decide) (br_f (by decide) (br_f (by decide) (br_f (by decide) (br_f (by decide) (br_f (by decide) (br_f (by decide) h))))))))
    refine xi_s1 hi (by omega) (br_f (by decide) (br_t (by decide) ?_))
    obtain ⟨f, hf, ef, af⟩ := J.2.2.1.2.2 i hi
    have hv := hc_g C hf af
    refine br_f (by decide) (br_f (by decide) (br_f (by decide) (br_f (by decide) (br_f (by decide) (br_f (by decide) (br_f (by decide) (br_f (by decide) (br_t rfl (⟨hii, ?_⟩)))))))))
    rw [ci, ef]
    by_cases k2 : K (f / 16) = 2
    · obtain ⟨l, x, _, _, _, x1, x2, x3, _⟩ := hc_r W C hv (hn_2 k2) (by rw [k2]; decide)
      refine xi_knd hf (fun _ => br_f (by decide) ⟨hii, xi_rgt W C hf hv (hn_2 k2) (by rw [k2]; decide) (xs_fin (q := q) (P := fun r u' => wpY_step (fun r' v' => r' = r ∧ i_Rel q u' v') (nI n, nI tm, nI pm, nI c, nI ne, nI nr, nI ns, ph, kn, K, L, R, Ym, E, r0, r1, rc, F, Yc, Yk) (nI 6) (nI i) v3 v4) J p1 hs (Or.inr ⟨x, x1, x2, x3⟩) (fun ra u' h => h196 _ (yj_ref J (br_f (by decide) (br_f (by decide) (br_f (by decide) (br_f (by decide) (br_f (by decide) (br_f (by decide) (⟨hii, nm_r (e' := nI f) (by rw [ci, ef]) (yi_kk hf (br_f (by decide) (br_t rfl (br_t ((hk_i (by decide) (by decide)).mpr k2) (yi_rgt W C hf hv (hn_2 k2) (by rw [k2]; decide) (br_f (by decide) (br_f (by decide) (h))))))))⟩))))))))))⟩) (fun z => absurd k2 z)
    · refine xi_knd hf (fun z => absurd z k2) (fun _ => br_t rfl (xs_fin (q := q) (P := fun r u' => wpY_step (fun r' v' => r' = r ∧ i_Rel q u' v') (nI n, nI tm, nI pm, nI c, nI ne, nI nr, nI ns, ph, kn, K, L, R, Ym, E, r0, r1, rc, F, Yc, Yk) (nI 6) (nI i) v3 v4) J p1 hs (Or.inl rfl) (fun ra u' h => h196 _ (yj_ref J (br_f (by decide) (br_f (by decide) (br_f (by decide) (br_f (by decide) (br_f (by decide) (br_f (by decide) (⟨hii, nm_r (e' := nI f) (by rw [ci, ef]) (yi_kk hf (br_f (by decide) (br_t rfl (br_f (fun z => k2 ((hk_i (by decide) (by decide)).mp z)) (br_f (by decide) (br_f (by decide) (h)))))))⟩)))))))))))
  · exact xi_s0 h2 (br_t rfl (br_f (by decide) (hy _ (yi_s0 h2 (br_t rfl ⟨rfl, I'⟩)))))
theorem sx_7 (J : hp_J n tm pm c ne nr ns ph kn K L R M A Z E r0 r1 rc F Ym Yc Yk) (p1 : ph = 1) (hs : ns < pm) (v2 v3 v4 : Int32) : wpX_step (fun r u' => wpY_step (fun r' v' => r' = r ∧ i_Rel q u' v') (nI n, nI tm, nI pm, nI c, nI ne, nI nr, nI ns, ph, kn, K, L, R, Ym, E, r0, r1, rc, F, Yc, Yk) (nI 7) v2 v3 v4) (nI n, nI tm, nI pm, ph, nI c, nI ne, nI nr, nI ns, kn, K, L, R, M, A, Z, E, r0, r1, rc, F) (nI 7) v2 v3 v4 := by
  obtain ⟨b1, b2, b3, b4, b5, b6, b7, b8⟩ := hj_b J
  have q0 : ¬ ph = 0 := by rw [p1]; decide
  have hlt : nI ns < nI pm := nI_lt hs (by omega)
  have W := J.1.1
  have C := J.2.1.1
  have I' := hj_mk (k := q) J
  refine br_f q0 (br_t hlt (br_f (by decide) (br_t (by decide) ?_)))
  refine br_f (by decide) (br_f (by decide) (br_f (by decide) (br_f (by decide) (br_f (by decide) (br_f (by decide) (br_f (by decide) (br_f (by decide) (br_f (by decide) (br_t rfl (?_))))))))))
  have hy : ∀ post : Int32 → SY → Prop, wY_step_110 post (nI 7) v2 v3 v4 (nI n) (nI tm) (nI pm) (nI c) (nI ne) (nI nr) (nI ns) ph kn K L R Ym E r0 r1 rc F Yc Yk → wpY_step post (nI n, nI tm, nI pm, nI c, nI ne, nI nr, nI ns, ph, kn, K, L, R, Ym, E, r0, r1, rc, F, Yc, Yk) (nI 7) v2 v3 v4 := fun post h => br_f q0 (br_t hlt (br_f (by decide) (br_t (by decide) (br_f (by decide) (br_f (by decide) (br_f (by decide) (br_f (by decide) (br_f (by decide) (br_f (by decide) (br_f (by decide) (br_t rfl (h))))))))))))
  rcases hp_ix v2 (c := ns) (by omega) with ⟨i, hi, rfl⟩ | h2
  · rcases hp_ix v3 (c := ns) (by omega) with ⟨j, hj, rfl⟩ | h3
    · have hii : vp_in (nI i) 32 := vp_in_nI (by omega) (by decide)
      have hij : vp_in (nI j) 32 := vp_in_nI (by omega) (by decide)
      have ci : (nI i).toNatClampNeg = i := nI_clamp (by omega)
      have cj : (nI j).toNatClampNeg = j := nI_clamp (by omega)
      have h196 : ∀ post : Int32 → SY → Prop, wY_step_196 post (nI 7) (nI i) (nI j) v4 (nI n) (nI tm) (nI pm) (nI c) (nI ne) (nI nr) (nI ns) ph kn K L R Ym E r0 r1 rc F Yc Yk → wpY_step post (nI n, nI tm, nI pm, nI c, nI ne, nI nr, nI ns, ph, kn, K, L, R, Ym, E, r0, r1, rc, F, Yc, Yk) (nI 7) (nI i) (nI j) v4 := fun post h => hy _ (yi_s1 hi (by omega) (br_f (by decide) (yi_s1 hj (by omega) (br_f (by decide) (br_f (by decide) h)))))
      refine xi_s1 hi (by omega) (br_f (by decide) (xi_s1 hj (by omega) (br_f (by decide) (br_t (by decide) ?_))))
      obtain ⟨f, hf, ef, af⟩ := J.2.2.1.2.2 i hi
      have hv := hc_g C hf af
      refine br_f (by decide) (br_f (by decide) (br_f (by decide) (br_f (by decide) (br_f (by decide) (br_f (by decide) (br_f (by decide) (br_f (by decide) (br_f (by decide) (br_t rfl (⟨hii, ?_⟩))))))))))
      rw [ci, ef]
      by_cases k3 : K (f / 16) = 3
      · have n5 : ¬ K (f / 16) = 5 := by rw [k3]; decide
        obtain ⟨l, x, _, _, _, x1, x2, x3, _⟩ := hc_l W C hv (hn_3 k3)
        refine xi_knd hf (fun _ => br_f (by decide) ⟨hii, hij, ?_⟩) (fun z => absurd k3 z)
        unfold wpX_opened
        refine xi_key3 W C hf hv k3 ?_
        rw [cj]
        by_cases e : A (hp_l R f) = F j
        · refine br_t e (xi_lft W C hf hv (hn_3 k3) (xs_fin (q := q) (P := fun r u' => wpY_step (fun r' v' => r' = r ∧ i_Rel q u' v') (nI n, nI tm, nI pm, nI c, nI ne, nI nr, nI ns, ph, kn, K, L, R, Ym, E, r0, r1, rc, F, Yc, Yk) (nI 7) (nI i) (nI j) v4) J p1 hs (Or.inr ⟨x, x1, x2, x3⟩) (fun ra u' h => h196 _ (yj_ref J (br_f (by decide) (br_f (by decide) (br_f (by decide) (br_f (by decide) (br_f (by decide) (br_f (by decide) (⟨hii, nm_r (e' := nI f) (by rw [ci, ef]) (yi_kk hf (br_f (by decide) (br_f (by decide) (br_t rfl (br_t ((hk_i (by decide) (by decide)).mpr k3) (yi_rgt W C hf hv (hn_3 k3) n5 ⟨hij, br_t (by rw [cj]; exact e) (yi_lft W C hf hv (hn_3 k3) (br_f (by decide) h))⟩))))))⟩)))))))))))
        · refine br_f e (xs_fin (q := q) (P := fun r u' => wpY_step (fun r' v' => r' = r ∧ i_Rel q u' v') (nI n, nI tm, nI pm, nI c, nI ne, nI nr, nI ns, ph, kn, K, L, R, Ym, E, r0, r1, rc, F, Yc, Yk) (nI 7) (nI i) (nI j) v4) J p1 hs (Or.inl rfl) (fun ra u' h => h196 _ (yj_ref J (br_f (by decide) (br_f (by decide) (br_f (by decide) (br_f (by decide) (br_f (by decide) (br_f (by decide) (⟨hii, nm_r (e' := nI f) (by rw [ci, ef]) (yi_kk hf (br_f (by decide) (br_f (by decide) (br_t rfl (br_t ((hk_i (by decide) (by decide)).mpr k3) (yi_rgt W C hf hv (hn_3 k3) n5 ⟨hij, br_f (by rw [cj]; exact e) (br_f (by decide) h)⟩))))))⟩))))))))))
      · refine xi_knd hf (fun z => absurd z k3) (fun _ => br_t rfl (xs_fin (q := q) (P := fun r u' => wpY_step (fun r' v' => r' = r ∧ i_Rel q u' v') (nI n, nI tm, nI pm, nI c, nI ne, nI nr, nI ns, ph, kn, K, L, R, Ym, E, r0, r1, rc, F, Yc, Yk) (nI 7) (nI i) (nI j) v4) J p1 hs (Or.inl rfl) (fun ra u' h => h196 _ (yj_ref J (br_f (by decide) (br_f (by decide) (br_f (by decide) (br_f (by decide) (br_f (by decide) (br_f (by decide) (⟨hii, nm_r (e' := nI f) (by rw [ci, ef]) (yi_kk hf (br_f (by decide) (br_f (by decide) (br_t rfl (br_f (fun z => k3 ((hk_i (by decide) (by decide)).mp z)) (br_f (by decide) h))))))⟩)))))))))))
    · exact xi_s1 hi (by omega) (br_f (by decide) (xi_s0 h3 (br_t rfl (br_f (by decide) (hy _ (yi_s1 hi (by omega) (br_f (by decide) (yi_s0 h3 (br_t rfl ⟨rfl, I'⟩)))))))))
  · exact xi_s0 h2 (br_t rfl (br_f (by decide) (hy _ (yi_s0 h2 (br_t rfl ⟨rfl, I'⟩)))))
theorem sx_8 (J : hp_J n tm pm c ne nr ns ph kn K L R M A Z E r0 r1 rc F Ym Yc Yk) (p1 : ph = 1) (hs : ns < pm) (v2 v3 v4 : Int32) : wpX_step (fun r u' => wpY_step (fun r' v' => r' = r ∧ i_Rel q u' v') (nI n, nI tm, nI pm, nI c, nI ne, nI nr, nI ns, ph, kn, K, L, R, Ym, E, r0, r1, rc, F, Yc, Yk) (nI 8) v2 v3 v4) (nI n, nI tm, nI pm, ph, nI c, nI ne, nI nr, nI ns, kn, K, L, R, M, A, Z, E, r0, r1, rc, F) (nI 8) v2 v3 v4 := by
  obtain ⟨b1, b2, b3, b4, b5, b6, b7, b8⟩ := hj_b J
  have q0 : ¬ ph = 0 := by rw [p1]; decide
  have hlt : nI ns < nI pm := nI_lt hs (by omega)
  have W := J.1.1
  have C := J.2.1.1
  have I' := hj_mk (k := q) J
  refine br_f q0 (br_t hlt (br_f (by decide) (br_t (by decide) ?_)))
  refine br_f (by decide) (br_f (by decide) (br_f (by decide) (br_f (by decide) (br_f (by decide) (br_f (by decide) (br_f (by decide) (br_f (by decide) (br_f (by decide) (br_f (by decide) (br_t rfl (?_)))))))))))
  have hy : ∀ post : Int32 → SY → Prop, wY_step_110 post (nI 8) v2 v3 v4 (nI n) (nI tm) (nI pm) (nI c) (nI ne) (nI nr) (nI ns) ph kn K L R Ym E r0 r1 rc F Yc Yk → wpY_step post (nI n, nI tm, nI pm, nI c, nI ne, nI nr, nI ns, ph, kn, K, L, R, Ym, E, r0, r1, rc, F, Yc, Yk) (nI 8) v2 v3 v4 := fun post h => br_f q0 (br_t hlt (br_f (by decide) (br_t (by decide) (br_f (by decide) (br_f (by decide) (br_f (by decide) (br_f (by decide) (br_f (by decide) (br_f (by decide) (br_f (by decide) (br_f (by decide) (br_t rfl (h)))))))))))))
  rcases hp_ix v2 (c := ns) (by omega) with ⟨i, hi, rfl⟩ | h2
  · rcases hp_ix v3 (c := ns) (by omega) with ⟨j, hj, rfl⟩ | h3
    · have hii : vp_in (nI i) 32 := vp_in_nI (by omega) (by decide)
      have hij : vp_in (nI j) 32 := vp_in_nI (by omega) (by decide)
      have ci : (nI i).toNatClampNeg = i := nI_clamp (by omega)
      have cj : (nI j).toNatClampNeg = j := nI_clamp (by omega)
      have h196 : ∀ post : Int32 → SY → Prop, wY_step_196 post (nI 8) (nI i) (nI j) v4 (nI n) (nI tm) (nI pm) (nI c) (nI ne) (nI nr) (nI ns) ph kn K L R Ym E r0 r1 rc F Yc Yk → wpY_step post (nI n, nI tm, nI pm, nI c, nI ne, nI nr, nI ns, ph, kn, K, L, R, Ym, E, r0, r1, rc, F, Yc, Yk) (nI 8) (nI i) (nI j) v4 := fun post h => hy _ (yi_s1 hi (by omega) (br_f (by decide) (yi_s1 hj (by omega) (br_f (by decide) (br_f (by decide) h)))))
      refine xi_s1 hi (by omega) (br_f (by decide) (xi_s1 hj (by omega) (br_f (by decide) (br_t (by decide) ?_))))
      obtain ⟨f, hf, ef, af⟩ := J.2.2.1.2.2 i hi
      have hv := hc_g C hf af
      refine br_f (by decide) (br_f (by decide) (br_f (by decide) (br_f (by decide) (br_f (by decide) (br_f (by decide) (br_f (by decide) (br_f (by decide) (br_f (by decide) (br_f (by decide) (br_t rfl (⟨hii, ?_⟩)))))))))))
      rw [ci, ef]
      by_cases k4 : K (f / 16) = 4
      · have n5 : ¬ K (f / 16) = 5 := by rw [k4]; decide
        have kk4 := (hk_i (K := K) (f := f) (m := 4) (by decide) (by decide)).mpr k4
        obtain ⟨l, x, _, _, _, x1, x2, x3, _⟩ := hc_l W C hv (hn_4 k4)
        obtain ⟨l', w, _, _, _, w1, w2, w3, _⟩ := hc_r W C hv (hn_4 k4) n5
        refine xi_knd hf (fun _ => br_f (by decide) ⟨hii, hij, ?_⟩) (fun z => absurd k4 z)
        obtain ⟨g, hg, eg, ag⟩ := J.2.2.1.2.2 j hj
        unfold wpX_opened
        rw [cj]
        refine xi_key4 W C hf hv k4 w1 w2 w3 (fun k5 => ?_) (fun k5 => ?_)
        · have kk5 := (hk_i (K := K) (f := w) (m := 5) (by decide) (by decide)).mpr k5
          have hw := hc_g C w1 w3
          by_cases e : A (hp_l L w) = F j
          · refine br_t e (xi_lft W C hf hv (hn_4 k4) (xs_fin (q := q) (P := fun r u' => wpY_step (fun r' v' => r' = r ∧ i_Rel q u' v') (nI n, nI tm, nI pm, nI c, nI ne, nI nr, nI ns, ph, kn, K, L, R, Ym, E, r0, r1, rc, F, Yc, Yk) (nI 8) (nI i) (nI j) v4) J p1 hs (Or.inr ⟨x, x1, x2, x3⟩) (fun ra u' h => ?_)))
            refine h196 _ (yj_ref J (br_f (by decide) (br_f (by decide) (br_f (by decide) (br_f (by decide) (br_f (by decide) (br_f (by decide) (⟨hii, nm_r (e' := nI f) (by rw [ci, ef]) (yi_kk hf (br_f (by decide) (br_f (by decide) (br_f (by decide) (br_t rfl (br_t kk4 (yi_rgt W C hf hv (hn_4 k4) n5 ?_)))))))⟩))))))))
            rw [w2]
            exact br_f (nI_pos (by omega)) (yi_kk w1 (br_t kk5 (yi_lft W C w1 hw (hn_5 k5) ⟨hij, br_t (by rw [cj]; exact e) (yi_lft W C hf hv (hn_4 k4) h)⟩)))
          · refine br_f e (xs_fin (q := q) (P := fun r u' => wpY_step (fun r' v' => r' = r ∧ i_Rel q u' v') (nI n, nI tm, nI pm, nI c, nI ne, nI nr, nI ns, ph, kn, K, L, R, Ym, E, r0, r1, rc, F, Yc, Yk) (nI 8) (nI i) (nI j) v4) J p1 hs (Or.inl rfl) (fun ra u' h => ?_))
            refine h196 _ (yj_ref J (br_f (by decide) (br_f (by decide) (br_f (by decide) (br_f (by decide) (br_f (by decide) (br_f (by decide) (⟨hii, nm_r (e' := nI f) (by rw [ci, ef]) (yi_kk hf (br_f (by decide) (br_f (by decide) (br_f (by decide) (br_t rfl (br_t kk4 (yi_rgt W C hf hv (hn_4 k4) n5 ?_)))))))⟩))))))))
            rw [w2]
            exact br_f (nI_pos (by omega)) (yi_kk w1 (br_t kk5 (yi_lft W C w1 hw (hn_5 k5) ⟨hij, br_f (by rw [cj]; exact e) h⟩)))
        · refine br_f (by rw [eg]; exact fun z => ha_ne1 (by omega) z.symm) (xs_fin (q := q) (P := fun r u' => wpY_step (fun r' v' => r' = r ∧ i_Rel q u' v') (nI n, nI tm, nI pm, nI c, nI ne, nI nr, nI ns, ph, kn, K, L, R, Ym, E, r0, r1, rc, F, Yc, Yk) (nI 8) (nI i) (nI j) v4) J p1 hs (Or.inl rfl) (fun ra u' h => ?_))
          refine h196 _ (yj_ref J (br_f (by decide) (br_f (by decide) (br_f (by decide) (br_f (by decide) (br_f (by decide) (br_f (by decide) (⟨hii, nm_r (e' := nI f) (by rw [ci, ef]) (yi_kk hf (br_f (by decide) (br_f (by decide) (br_f (by decide) (br_t rfl (br_t kk4 (yi_rgt W C hf hv (hn_4 k4) n5 ?_)))))))⟩))))))))
          rw [w2]
          exact br_f (nI_pos (by omega)) (yi_kk w1 (br_f (fun z => k5 ((hk_i (by decide) (by decide)).mp z)) h))
      · refine xi_knd hf (fun z => absurd z k4) (fun _ => br_t rfl (xs_fin (q := q) (P := fun r u' => wpY_step (fun r' v' => r' = r ∧ i_Rel q u' v') (nI n, nI tm, nI pm, nI c, nI ne, nI nr, nI ns, ph, kn, K, L, R, Ym, E, r0, r1, rc, F, Yc, Yk) (nI 8) (nI i) (nI j) v4) J p1 hs (Or.inl rfl) (fun ra u' h => h196 _ (yj_ref J (br_f (by decide) (br_f (by decide) (br_f (by decide) (br_f (by decide) (br_f (by decide) (br_f (by decide) (⟨hii, nm_r (e' := nI f) (by rw [ci, ef]) (yi_kk hf (br_f (by decide) (br_f (by decide) (br_f (by decide) (br_t rfl (br_f (fun z => k4 ((hk_i (by decide) (by decide)).mp z)) h))))))⟩)))))))))))
    · exact xi_s1 hi (by omega) (br_f (by decide) (xi_s0 h3 (br_t rfl (br_f (by decide) (hy _ (yi_s1 hi (by omega) (br_f (by decide) (yi_s0 h3 (br_t rfl ⟨rfl, I'⟩)))))))))
  · exact xi_s0 h2 (br_t rfl (br_f (by decide) (hy _ (yi_s0 h2 (br_t rfl ⟨rfl, I'⟩)))))
theorem sx_0 (J : hp_J n tm pm c ne nr ns ph kn K L R M A Z E r0 r1 rc F Ym Yc Yk) (p1 : ph = 1) (hs : ns < pm) (v2 v3 v4 : Int32) : wpX_step (fun r u' => wpY_step (fun r' v' => r' = r ∧ i_Rel q u' v') (nI n, nI tm, nI pm, nI c, nI ne, nI nr, nI ns, ph, kn, K, L, R, Ym, E, r0, r1, rc, F, Yc, Yk) (nI 0) v2 v3 v4) (nI n, nI tm, nI pm, ph, nI c, nI ne, nI nr, nI ns, kn, K, L, R, M, A, Z, E, r0, r1, rc, F) (nI 0) v2 v3 v4 := by
  obtain ⟨b1, b2, b3, b4, b5, b6, b7, b8⟩ := hj_b J
  have q0 : ¬ ph = 0 := by rw [p1]; decide
  have hlt : nI ns < nI pm := nI_lt hs (by omega)
  have W := J.1.1
  have C := J.2.1.1
  have I' := hj_mk (k := q) J
  refine br_f q0 (br_t hlt (br_f (by decide) (br_t (by decide) ?_)))
  refine br_f (by decide) (br_f (by decide) (br_t rfl (?_)))
  have hy : ∀ post : Int32 → SY → Prop, ((v2 < 0 → post (-4) (nI n, nI tm, nI pm, nI c, nI ne, nI nr, nI ns, ph, kn, K, L, R, Ym, E, r0, r1, rc, F, Yc, Yk)) ∧ (¬ v2 < 0 → ((v2 < nI ne → wY_step_56 post (nI 0) v2 v3 v4 (nI n) (nI tm) (nI pm) (nI c) (nI ne) (nI nr) (nI ns) ph kn K L R Ym E r0 r1 rc F Yc Yk) ∧ (¬ v2 < nI ne → post (-4) (nI n, nI tm, nI pm, nI c, nI ne, nI nr, nI ns, ph, kn, K, L, R, Ym, E, r0, r1, rc, F, Yc, Yk))))) → wpY_step post (nI n, nI tm, nI pm, nI c, nI ne, nI nr, nI ns, ph, kn, K, L, R, Ym, E, r0, r1, rc, F, Yc, Yk) (nI 0) v2 v3 v4 := fun post h => br_f q0 (br_t hlt (br_f (by decide) (br_t (by decide) (br_t rfl h))))
  rcases hp_ix v2 (c := ne) (by omega) with ⟨i, hi, rfl⟩ | h2
  · have hii : vp_in (nI i) 8 := vp_in_nI (by omega) (by decide)
    have ci : (nI i).toNatClampNeg = i := nI_clamp (by omega)
    obtain ⟨h, hh, eh⟩ := J.2.2.1.1 i hi
    have w := W.2.2.1
    have e2 : (h * 16) % 16 = 0 := by omega
    obtain ⟨x, x1, x2, x3, _⟩ := hc_p W C (t := h * 16) ⟨by omega, by rw [e2]; exact ⟨by have := W.1; omega, by have := W.1; omega⟩⟩
    refine hb_i hi (by omega) (br_t (by decide) (br_f (by decide) (br_f (by decide) (br_t rfl ⟨hii, ?_⟩))))
    rw [ci, eh, ha_16, nI_clamp (n := h * 16) (by omega)]
    refine ⟨vp_in_nI (by omega) (by decide), xs_fin (q := q) (P := fun r u' => wpY_step (fun r' v' => r' = r ∧ i_Rel q u' v') (nI n, nI tm, nI pm, nI c, nI ne, nI nr, nI ns, ph, kn, K, L, R, Ym, E, r0, r1, rc, F, Yc, Yk) (nI 0) (nI i) v3 v4) J p1 hs (Or.inr ⟨x, x1, x2, x3⟩) (fun ra u' hh => ?_)⟩
    refine hy _ (hb_i2 hi (by omega) (br_f (by decide) (br_f (by decide) (br_f (by decide) (br_f (by decide) (br_f (by decide) (br_f (by decide) (br_f (by decide) (br_f (by decide) (br_f (by decide) (yj_ref J (br_t rfl ⟨hii, ?_⟩))))))))))))
    rw [ci, eh, ha_16, ha_a255 (by omega), nI_clamp (n := h * 16) (by omega)]
    exact ⟨vp_in_nI (by omega) (by decide), nm_e hh⟩
  · exact hb_o h2 (br_f (by decide) (hy _ (hb_o2 h2 ⟨rfl, I'⟩)))
theorem sx_9 (J : hp_J n tm pm c ne nr ns ph kn K L R M A Z E r0 r1 rc F Ym Yc Yk) (p1 : ph = 1) (hs : ns < pm) (v2 v3 v4 : Int32) : wpX_step (fun r u' => wpY_step (fun r' v' => r' = r ∧ i_Rel q u' v') (nI n, nI tm, nI pm, nI c, nI ne, nI nr, nI ns, ph, kn, K, L, R, Ym, E, r0, r1, rc, F, Yc, Yk) (nI 9) v2 v3 v4) (nI n, nI tm, nI pm, ph, nI c, nI ne, nI nr, nI ns, kn, K, L, R, M, A, Z, E, r0, r1, rc, F) (nI 9) v2 v3 v4 := by
  obtain ⟨b1, b2, b3, b4, b5, b6, b7, b8⟩ := hj_b J
  have q0 : ¬ ph = 0 := by rw [p1]; decide
  have hlt : nI ns < nI pm := nI_lt hs (by omega)
  have W := J.1.1
  have C := J.2.1.1
  have I' := hj_mk (k := q) J
  refine br_f q0 (br_t hlt (br_f (by decide) (br_t (by decide) ?_)))
  refine br_f (by decide) (br_f (by decide) (br_f (by decide) (br_f (by decide) (br_f (by decide) (br_f (by decide) (br_f (by decide) (br_f (by decide) (br_f (by decide) (br_f (by decide) (br_f (by decide) (br_t rfl (?_))))))))))))
  have hy : ∀ post : Int32 → SY → Prop, ((v2 < 0 → (post (-4) (nI n, nI tm, nI pm, nI c, nI ne, nI nr, nI ns, ph, kn, K, L, R, Ym, E, r0, r1, rc, F, Yc, Yk))) ∧ (¬ v2 < 0 → (((v2 < nI nr → (vp_in v2 8 ∧ ((((r0 v2.toNatClampNeg) = (-1) → (wY_step_174 post (nI 9) v2 v3 v4 (nI n) (nI tm) (nI pm) (nI c) (nI ne) (nI nr) (nI ns) ph kn K L R Ym E r0 r1 rc F Yc Yk)) ∧ (¬ (r0 v2.toNatClampNeg) = (-1) → (wpY_validStep (fun r_408 => (((r_408 = 0 → (post (-9) (nI n, nI tm, nI pm, nI c, nI ne, nI nr, nI ns, ph, kn, K, L, R, Ym, E, r0, r1, rc, F, Yc, Yk))) ∧ (¬ r_408 = 0 → (wY_step_174 post (nI 9) v2 v3 v4 (nI n) (nI tm) (nI pm) (nI c) (nI ne) (nI nr) (nI ns) ph kn K L R Ym E r0 r1 rc F Yc Yk))))) (nI n, nI tm, nI pm, nI c, nI ne, nI nr, nI ns, ph, kn, K, L, R, Ym, E, r0, r1, rc, F, Yc, Yk) v3)))))) ∧ (¬ v2 < nI nr → (post (-4) (nI n, nI tm, nI pm, nI c, nI ne, nI nr, nI ns, ph, kn, K, L, R, Ym, E, r0, r1, rc, F, Yc, Yk))))))) → wpY_step post (nI n, nI tm, nI pm, nI c, nI ne, nI nr, nI ns, ph, kn, K, L, R, Ym, E, r0, r1, rc, F, Yc, Yk) (nI 9) v2 v3 v4 := fun post h => br_f q0 (br_t hlt (br_f (by decide) (br_t (by decide) (br_f (by decide) (br_f (by decide) (br_f (by decide) (br_f (by decide) (br_f (by decide) (br_f (by decide) (br_f (by decide) (br_f (by decide) (br_f (by decide) (br_t rfl h)))))))))))))
  rcases hp_ix v2 (c := nr) (by omega) with ⟨i, hi, rfl⟩ | h2
  · have hii : vp_in (nI i) 8 := vp_in_nI (by omega) (by decide)
    have ci : (nI i).toNatClampNeg = i := nI_clamp (by omega)
    have h196 : ∀ post : Int32 → SY → Prop, (¬ r1 i = -1 → ∃ j, j < ns ∧ v4 = nI j) → wY_step_196 post (nI 9) (nI i) v3 v4 (nI n) (nI tm) (nI pm) (nI c) (nI ne) (nI nr) (nI ns) ph kn K L R Ym E r0 r1 rc F Yc Yk → wY_step_174 post (nI 9) (nI i) v3 v4 (nI n) (nI tm) (nI pm) (nI c) (nI ne) (nI nr) (nI ns) ph kn K L R Ym E r0 r1 rc F Yc Yk := fun post g h => by
      refine ⟨hii, ?_⟩
      rw [ci]
      by_cases e : r1 i = -1
      · exact br_t e h
      · obtain ⟨j, hj, rfl⟩ := g e
        exact br_f e (yi_s1 hj (by omega) (br_f (by decide) h))
    have h174 : ∀ post : Int32 → SY → Prop, (¬ r0 i = -1 → ∃ j, j < ns ∧ v3 = nI j) → wY_step_174 post (nI 9) (nI i) v3 v4 (nI n) (nI tm) (nI pm) (nI c) (nI ne) (nI nr) (nI ns) ph kn K L R Ym E r0 r1 rc F Yc Yk → wpY_step post (nI n, nI tm, nI pm, nI c, nI ne, nI nr, nI ns, ph, kn, K, L, R, Ym, E, r0, r1, rc, F, Yc, Yk) (nI 9) (nI i) v3 v4 := fun post g h => by
      refine hy _ (hb_i2 hi (by omega) ⟨hii, ?_⟩)
      rw [ci]
      by_cases e : r0 i = -1
      · exact br_t e h
      · obtain ⟨j, hj, rfl⟩ := g e
        exact br_f e (yi_s1 hj (by omega) (br_f (by decide) h))
    refine xi_rr hi b7 (by omega) (fun g3 g4 => br_t (by decide) ?_) (fun e h3 => br_f (by decide) ?_) (fun g3 e h4 => br_f (by decide) ?_)
    · obtain ⟨r, hr⟩ := hz_ex n A (r0 i) (r1 i) (rc i) (F v3.toNatClampNeg) (F v4.toNatClampNeg)
      have hy3 : ¬ r0 i = -1 → vp_in v3 32 := fun e => by
        obtain ⟨j, hj, rfl⟩ := g3 e
        exact vp_in_nI (by omega) (by decide)
      have hy4 : ¬ r1 i = -1 → vp_in v4 32 := fun e => by
        obtain ⟨j, hj, rfl⟩ := g4 e
        exact vp_in_nI (by omega) (by decide)
      have ho := ho_z W C (J.2.2.1.2.1 i hi).2.2 hr
      refine br_f (by decide) (br_f (by decide) (br_f (by decide) (br_f (by decide) (br_f (by decide) (br_f (by decide) (br_f (by decide) (br_f (by decide) (br_f (by decide) (br_f (by decide) (br_f (by decide) (br_t rfl (xi_rf W J.2.2.1.2.1 hi b7 hy3 hy4 hr ?_))))))))))))
      refine xs_fin (q := q) (P := fun r u' => wpY_step (fun r' v' => r' = r ∧ i_Rel q u' v') (nI n, nI tm, nI pm, nI c, nI ne, nI nr, nI ns, ph, kn, K, L, R, Ym, E, r0, r1, rc, F, Yc, Yk) (nI 9) (nI i) v3 v4) J p1 hs ho (fun ra u' h => ?_)
      refine h174 _ g3 (h196 _ g4 (yj_ref J (br_f (by decide) (br_t rfl ?_))))
      exact yi_rs W J.2.2.1.2.1 hi b7 hy3 hy4 hr h
    · refine hy _ (hb_i2 hi (by omega) ⟨hii, ?_⟩)
      rw [ci]
      exact br_f e (yi_s0 h3 (br_t rfl ⟨rfl, I'⟩))
    · refine h174 _ g3 ⟨hii, ?_⟩
      rw [ci]
      exact br_f e (yi_s0 h4 (br_t rfl ⟨rfl, I'⟩))
  · exact xi_rr0 h2 (br_f (by decide) (hy _ (hb_o2 h2 ⟨rfl, I'⟩)))
end HT
theorem i_vc_step {k : Nat} {u : SX} {v : SY} (I : i_Rel k u v) (hk : k + 5 ≤ 2563) (v1 : Int32) (v2 : Int32) (v3 : Int32) (v4 : Int32) : wpX_step (fun r u' => wpY_step (fun r' v' => r' = r ∧ i_Rel (k + 5) u' v') v v1 v2 v3 v4) u v1 v2 v3 v4 := by
  have I' := I
  obtain ⟨n, tm, pm, c, ne, nr, ns, ph, kn, K, L, R, M, A, Z, E, r0, r1, rc, F, Ym, Yc, Yk, rfl, rfl, J⟩ := I
  obtain ⟨b1, b2, b3, b4, b5, b6, b7, b8⟩ := hj_b J
  rcases hj_ph J with p | p
  · exact br_t p (br_t p ⟨rfl, I'⟩)
  · have q0 : ¬ ph = 0 := by rw [p]; decide
    by_cases hs : ns < pm
    · have hlt : nI ns < nI pm := nI_lt hs (by omega)
      rcases hp_ix v1 (c := 10) (by omega) with ⟨i, hi, rfl⟩ | h
      · obtain rfl | rfl | rfl | rfl | rfl | rfl | rfl | rfl | rfl | rfl : i = 0 ∨ i = 1 ∨ i = 2 ∨ i = 3 ∨ i = 4 ∨ i = 5 ∨ i = 6 ∨ i = 7 ∨ i = 8 ∨ i = 9 := by omega
        · exact sx_0 J p hs v2 v3 v4
        · exact sx_1 J p hs v2 v3 v4
        · exact sx_2 J p hs v2 v3 v4
        · exact sx_3 J p hs v2 v3 v4
        · exact sx_4 J p hs v2 v3 v4
        · exact sx_5 J p hs v2 v3 v4
        · exact sx_6 J p hs v2 v3 v4
        · exact sx_7 J p hs v2 v3 v4
        · exact sx_8 J p hs v2 v3 v4
        · exact sx_9 J p hs v2 v3 v4
      · by_cases z : v1 < 0
        · exact br_f q0 (br_t hlt (br_t z (br_f q0 (br_t hlt (br_t z ⟨rfl, I'⟩)))))
        · have z9 : ¬ v1 ≤ 9 := Int32.not_le.mpr (Int32.lt_of_lt_of_le (nI_lt (a := 9) (b := 10) (by omega) (by omega)) (h.resolve_left z))
          exact br_f q0 (br_t hlt (br_f z (br_f z9 (br_f q0 (br_t hlt (br_f z (br_f z9 ⟨rfl, I'⟩)))))))
    · have hlt : ¬ nI ns < nI pm := nI_nlt (by omega) (by omega)
      exact br_f q0 (br_f hlt (br_f q0 (br_f hlt ⟨rfl, I'⟩)))
