/-! step in phase READY, kind by kind -/
section HST
variable {n c ne nr ns : Nat} {ph kn : Int32} {K L R M A Z E r0 r1 rc F : Nat → Int32} {post : Int32 → St2 → Prop} {i j f g : Nat} {v3 v4 : Int32}
theorem sz_fin {r : Int32} (hns : ns < 32) (h0 : r = -1 → post (-10) (nI n, 16, 32, ph, nI c, nI ne, nI nr, nI ns, kn, K, L, R, M, A, Z, E, r0, r1, rc, F)) (h1 : ¬ r = -1 → post (nI ns) (nI n, 16, 32, ph, nI c, nI ne, nI nr, nI (ns + 1), kn, K, L, R, M, A, Z, E, r0, r1, rc, upd F ns r)) :
    (r = -1 → post (-10) (nI n, 16, 32, ph, nI c, nI ne, nI nr, nI ns, kn, K, L, R, M, A, Z, E, r0, r1, rc, F)) ∧ (¬ r = -1 → (vp_in (nI ns) 32 ∧ ∀ a, a = upd F (nI ns).toNatClampNeg r → ∀ x, x = nI ns + 1 → post (nI ns) (nI n, 16, 32, ph, nI c, nI ne, nI nr, x, kn, K, L, R, M, A, Z, E, r0, r1, rc, a))) :=
  ⟨h0, fun z => ⟨vp_in_nI hns (by decide), nm_r (e' := upd F ns r) (by rw [nI_clamp (by omega)]) (nm_r (nI_1 ns) (h1 z))⟩⟩
theorem hj_hv (J : hx_J n c ne nr ns ph kn K L R M A Z E r0 r1 rc F) : ∀ g, g < 256 → A g = nI g → g / 16 < c := fun g hg e => (hc_g J.2.1.1 hg e).1
theorem st_1 (J : hx_J n c ne nr ns ph kn K L R M A Z E r0 r1 rc F) (p1 : ph = 1) (hns : ns < 32) (hi : i < ns) (hj : j < ns) {r : Int32} (hr : hp_r K L R A 2 (F i) (F j) r) (h0 : r = -1 → post (-10) (nI n, 16, 32, ph, nI c, nI ne, nI nr, nI ns, kn, K, L, R, M, A, Z, E, r0, r1, rc, F)) (h1 : ¬ r = -1 → post (nI ns) (nI n, 16, 32, ph, nI c, nI ne, nI nr, nI (ns + 1), kn, K, L, R, M, A, Z, E, r0, r1, rc, upd F ns r)) : wpX_step post (nI n, 16, 32, ph, nI c, nI ne, nI nr, nI ns, kn, K, L, R, M, A, Z, E, r0, r1, rc, F) (nI 1) (nI i) (nI j) v4 := by
  obtain ⟨b1, b2, b3, b4, b5, b6, b7⟩ := hj_b J
  have W := J.1.1
  have C := J.2.1.1
  refine br_f (by rw [p1]; decide) (br_t (nI_lt (b := 32) hns (by decide)) (br_f (by decide) (br_t (by decide) ?_)))
  have hii : vp_in (nI i) 32 := vp_in_nI (by omega) (by decide)
  have ci : (nI i).toNatClampNeg = i := nI_clamp (by omega)
  have hij : vp_in (nI j) 32 := vp_in_nI (by omega) (by decide)
  have cj : (nI j).toNatClampNeg = j := nI_clamp (by omega)
  refine br_f (by decide) (br_f (by decide) (br_f (by decide) (br_t rfl (xi_s1 hi (by omega) (br_f (by decide) (xi_s1 hj (by omega) (br_f (by decide) (br_t (by decide) ?_))))))))
  refine br_f (by decide) (br_f (by decide) (br_f (by decide) (br_t rfl (⟨hii, hij, ?_⟩))))
  rw [ci, cj]
  exact xi_find W (hj_hv J) (by decide) (fun z => absurd z (by decide)) hr (sz_fin hns h0 h1)
theorem st_2 (J : hx_J n c ne nr ns ph kn K L R M A Z E r0 r1 rc F) (p1 : ph = 1) (hns : ns < 32) (hi : i < ns) (hj : j < ns) {r : Int32} (hr : hp_r K L R A 3 (F i) (F j) r) (h0 : r = -1 → post (-10) (nI n, 16, 32, ph, nI c, nI ne, nI nr, nI ns, kn, K, L, R, M, A, Z, E, r0, r1, rc, F)) (h1 : ¬ r = -1 → post (nI ns) (nI n, 16, 32, ph, nI c, nI ne, nI nr, nI (ns + 1), kn, K, L, R, M, A, Z, E, r0, r1, rc, upd F ns r)) : wpX_step post (nI n, 16, 32, ph, nI c, nI ne, nI nr, nI ns, kn, K, L, R, M, A, Z, E, r0, r1, rc, F) (nI 2) (nI i) (nI j) v4 := by
  obtain ⟨b1, b2, b3, b4, b5, b6, b7⟩ := hj_b J
  have W := J.1.1
  have C := J.2.1.1
  refine br_f (by rw [p1]; decide) (br_t (nI_lt (b := 32) hns (by decide)) (br_f (by decide) (br_t (by decide) ?_)))
  have hii : vp_in (nI i) 32 := vp_in_nI (by omega) (by decide)
  have ci : (nI i).toNatClampNeg = i := nI_clamp (by omega)
  have hij : vp_in (nI j) 32 := vp_in_nI (by omega) (by decide)
  have cj : (nI j).toNatClampNeg = j := nI_clamp (by omega)
  refine br_f (by decide) (br_f (by decide) (br_f (by decide) (br_f (by decide) (br_t rfl (xi_s1 hi (by omega) (br_f (by decide) (xi_s1 hj (by omega) (br_f (by decide) (br_t (by decide) ?_)))))))))
  refine br_f (by decide) (br_f (by decide) (br_f (by decide) (br_f (by decide) (br_t rfl (⟨hii, hij, ?_⟩)))))
  rw [ci, cj]
  exact xi_find W (hj_hv J) (by decide) (fun z => absurd z (by decide)) hr (sz_fin hns h0 h1)
theorem st_3 (J : hx_J n c ne nr ns ph kn K L R M A Z E r0 r1 rc F) (p1 : ph = 1) (hns : ns < 32) (hi : i < ns) (hj : j < ns) {r : Int32} (hr : hp_r K L R A 4 (F i) (F j) r) (h0 : r = -1 → post (-10) (nI n, 16, 32, ph, nI c, nI ne, nI nr, nI ns, kn, K, L, R, M, A, Z, E, r0, r1, rc, F)) (h1 : ¬ r = -1 → post (nI ns) (nI n, 16, 32, ph, nI c, nI ne, nI nr, nI (ns + 1), kn, K, L, R, M, A, Z, E, r0, r1, rc, upd F ns r)) : wpX_step post (nI n, 16, 32, ph, nI c, nI ne, nI nr, nI ns, kn, K, L, R, M, A, Z, E, r0, r1, rc, F) (nI 3) (nI i) (nI j) v4 := by
  obtain ⟨b1, b2, b3, b4, b5, b6, b7⟩ := hj_b J
  have W := J.1.1
  have C := J.2.1.1
  refine br_f (by rw [p1]; decide) (br_t (nI_lt (b := 32) hns (by decide)) (br_f (by decide) (br_t (by decide) ?_)))
  have hii : vp_in (nI i) 32 := vp_in_nI (by omega) (by decide)
  have ci : (nI i).toNatClampNeg = i := nI_clamp (by omega)
  have hij : vp_in (nI j) 32 := vp_in_nI (by omega) (by decide)
  have cj : (nI j).toNatClampNeg = j := nI_clamp (by omega)
  refine br_f (by decide) (br_f (by decide) (br_f (by decide) (br_f (by decide) (br_f (by decide) (br_t rfl (xi_s1 hi (by omega) (br_f (by decide) (xi_s1 hj (by omega) (br_f (by decide) (br_t (by decide) ?_))))))))))
  refine br_f (by decide) (br_f (by decide) (br_f (by decide) (br_f (by decide) (br_f (by decide) (br_t rfl (⟨hii, hij, ?_⟩))))))
  rw [ci, cj]
  exact xi_find W (hj_hv J) (by decide) (fun z => absurd z (by decide)) hr (sz_fin hns h0 h1)
theorem st_4 (J : hx_J n c ne nr ns ph kn K L R M A Z E r0 r1 rc F) (p1 : ph = 1) (hns : ns < 32) (hi : i < ns) {r : Int32} (hr : hp_r K L R A 5 (F i) (-1) r) (h0 : r = -1 → post (-10) (nI n, 16, 32, ph, nI c, nI ne, nI nr, nI ns, kn, K, L, R, M, A, Z, E, r0, r1, rc, F)) (h1 : ¬ r = -1 → post (nI ns) (nI n, 16, 32, ph, nI c, nI ne, nI nr, nI (ns + 1), kn, K, L, R, M, A, Z, E, r0, r1, rc, upd F ns r)) : wpX_step post (nI n, 16, 32, ph, nI c, nI ne, nI nr, nI ns, kn, K, L, R, M, A, Z, E, r0, r1, rc, F) (nI 4) (nI i) v3 v4 := by
  obtain ⟨b1, b2, b3, b4, b5, b6, b7⟩ := hj_b J
  have W := J.1.1
  have C := J.2.1.1
  refine br_f (by rw [p1]; decide) (br_t (nI_lt (b := 32) hns (by decide)) (br_f (by decide) (br_t (by decide) ?_)))
  have hii : vp_in (nI i) 32 := vp_in_nI (by omega) (by decide)
  have ci : (nI i).toNatClampNeg = i := nI_clamp (by omega)
  refine br_f (by decide) (br_f (by decide) (br_f (by decide) (br_f (by decide) (br_f (by decide) (br_f (by decide) (br_t rfl (xi_s1 hi (by omega) (br_f (by decide) (br_t (by decide) ?_)))))))))
  refine br_f (by decide) (br_f (by decide) (br_f (by decide) (br_f (by decide) (br_f (by decide) (br_f (by decide) (br_t rfl (⟨hii, ?_⟩)))))))
  rw [ci]
  exact xi_find W (hj_hv J) (by decide) (fun _ => rfl) hr (sz_fin hns h0 h1)
theorem st_5 (J : hx_J n c ne nr ns ph kn K L R M A Z E r0 r1 rc F) (p1 : ph = 1) (hns : ns < 32) (hi : i < ns) (hf : f < 256) (ef : F i = nI f) (af : A f = nI f) (h0 : ¬ K (f / 16) = 2 → post (-10) (nI n, 16, 32, ph, nI c, nI ne, nI nr, nI ns, kn, K, L, R, M, A, Z, E, r0, r1, rc, F)) (h1 : K (f / 16) = 2 → post (nI ns) (nI n, 16, 32, ph, nI c, nI ne, nI nr, nI (ns + 1), kn, K, L, R, M, A, Z, E, r0, r1, rc, upd F ns (A (hp_l L f)))) : wpX_step post (nI n, 16, 32, ph, nI c, nI ne, nI nr, nI ns, kn, K, L, R, M, A, Z, E, r0, r1, rc, F) (nI 5) (nI i) v3 v4 := by
  obtain ⟨b1, b2, b3, b4, b5, b6, b7⟩ := hj_b J
  have W := J.1.1
  have C := J.2.1.1
  refine br_f (by rw [p1]; decide) (br_t (nI_lt (b := 32) hns (by decide)) (br_f (by decide) (br_t (by decide) ?_)))
  have hii : vp_in (nI i) 32 := vp_in_nI (by omega) (by decide)
  have ci : (nI i).toNatClampNeg = i := nI_clamp (by omega)
  refine br_f (by decide) (br_f (by decide) (br_f (by decide) (br_f (by decide) (br_f (by decide) (br_f (by decide) (br_f (by decide) (br_t rfl (xi_s1 hi (by omega) (br_f (by decide) (br_t (by decide) ?_))))))))))
  have hv := hc_g C hf af
  refine br_f (by decide) (br_f (by decide) (br_f (by decide) (br_f (by decide) (br_f (by decide) (br_f (by decide) (br_f (by decide) (br_t rfl (⟨hii, ?_⟩))))))))
  rw [ci, ef]
  by_cases k2 : K (f / 16) = 2
  · obtain ⟨l, x, _, _, _, x1, x2, x3, _⟩ := hc_l W C hv (hn_2 k2)
    have ne : ¬ A (hp_l L f) = -1 := by rw [x2]; exact ha_ne1 (by omega)
    exact xi_knd hf (fun _ => br_f (by decide) ⟨hii, xi_lft W C hf hv (hn_2 k2) (sz_fin hns (fun z => absurd z ne) (fun _ => h1 k2))⟩) (fun z => absurd k2 z)
  · exact xi_knd hf (fun z => absurd z k2) (fun _ => br_t rfl (sz_fin hns (fun _ => h0 k2) (fun z => absurd rfl z)))
theorem st_6 (J : hx_J n c ne nr ns ph kn K L R M A Z E r0 r1 rc F) (p1 : ph = 1) (hns : ns < 32) (hi : i < ns) (hf : f < 256) (ef : F i = nI f) (af : A f = nI f) (h0 : ¬ K (f / 16) = 2 → post (-10) (nI n, 16, 32, ph, nI c, nI ne, nI nr, nI ns, kn, K, L, R, M, A, Z, E, r0, r1, rc, F)) (h1 : K (f / 16) = 2 → post (nI ns) (nI n, 16, 32, ph, nI c, nI ne, nI nr, nI (ns + 1), kn, K, L, R, M, A, Z, E, r0, r1, rc, upd F ns (A (hp_l R f)))) : wpX_step post (nI n, 16, 32, ph, nI c, nI ne, nI nr, nI ns, kn, K, L, R, M, A, Z, E, r0, r1, rc, F) (nI 6) (nI i) v3 v4 := by
  obtain ⟨b1, b2, b3, b4, b5, b6, b7⟩ := hj_b J
  have W := J.1.1
  have C := J.2.1.1
  refine br_f (by rw [p1]; decide) (br_t (nI_lt (b := 32) hns (by decide)) (br_f (by decide) (br_t (by decide) ?_)))
  have hii : vp_in (nI i) 32 := vp_in_nI (by omega) (by decide)
  have ci : (nI i).toNatClampNeg = i := nI_clamp (by omega)
  refine br_f (by decide) (br_f (by decide) (br_f (by decide) (br_f (by decide) (br_f (by decide) (br_f (by decide) (br_f (by decide) (br_f (by decide) (br_t rfl (xi_s1 hi (by omega) (br_f (by decide) (br_t (by decide) ?_)))))))))))
  have hv := hc_g C hf af
  refine br_f (by decide) (br_f (by decide) (br_f (by decide) (br_f (by decide) (br_f (by decide) (br_f (by decide) (br_f (by decide) (br_f (by decide) (br_t rfl (⟨hii, ?_⟩)))))))))
  rw [ci, ef]
  by_cases k2 : K (f / 16) = 2
  · obtain ⟨l, x, _, _, _, x1, x2, x3, _⟩ := hc_r W C hv (hn_2 k2) (by rw [k2]; decide)
    have ne : ¬ A (hp_l R f) = -1 := by rw [x2]; exact ha_ne1 (by omega)
    exact xi_knd hf (fun _ => br_f (by decide) ⟨hii, xi_rgt W C hf hv (hn_2 k2) (by rw [k2]; decide) (sz_fin hns (fun z => absurd z ne) (fun _ => h1 k2))⟩) (fun z => absurd k2 z)
  · exact xi_knd hf (fun z => absurd z k2) (fun _ => br_t rfl (sz_fin hns (fun _ => h0 k2) (fun z => absurd rfl z)))
theorem st_7 (J : hx_J n c ne nr ns ph kn K L R M A Z E r0 r1 rc F) (p1 : ph = 1) (hns : ns < 32) (hi : i < ns) (hj : j < ns) (hf : f < 256) (ef : F i = nI f) (af : A f = nI f) (h0 : ¬ (K (f / 16) = 3 ∧ A (hp_l R f) = F j) → post (-10) (nI n, 16, 32, ph, nI c, nI ne, nI nr, nI ns, kn, K, L, R, M, A, Z, E, r0, r1, rc, F)) (h1 : K (f / 16) = 3 → A (hp_l R f) = F j → post (nI ns) (nI n, 16, 32, ph, nI c, nI ne, nI nr, nI (ns + 1), kn, K, L, R, M, A, Z, E, r0, r1, rc, upd F ns (A (hp_l L f)))) : wpX_step post (nI n, 16, 32, ph, nI c, nI ne, nI nr, nI ns, kn, K, L, R, M, A, Z, E, r0, r1, rc, F) (nI 7) (nI i) (nI j) v4 := by
  obtain ⟨b1, b2, b3, b4, b5, b6, b7⟩ := hj_b J
  have W := J.1.1
  have C := J.2.1.1
  refine br_f (by rw [p1]; decide) (br_t (nI_lt (b := 32) hns (by decide)) (br_f (by decide) (br_t (by decide) ?_)))
  have hii : vp_in (nI i) 32 := vp_in_nI (by omega) (by decide)
  have ci : (nI i).toNatClampNeg = i := nI_clamp (by omega)
  have hij : vp_in (nI j) 32 := vp_in_nI (by omega) (by decide)
  have cj : (nI j).toNatClampNeg = j := nI_clamp (by omega)
  refine br_f (by decide) (br_f (by decide) (br_f (by decide) (br_f (by decide) (br_f (by decide) (br_f (by decide) (br_f (by decide) (br_f (by decide) (br_f (by decide) (br_t rfl (xi_s1 hi (by omega) (br_f (by decide) (xi_s1 hj (by omega) (br_f (by decide) (br_t (by decide) ?_))))))))))))))
  have hv := hc_g C hf af
  refine br_f (by decide) (br_f (by decide) (br_f (by decide) (br_f (by decide) (br_f (by decide) (br_f (by decide) (br_f (by decide) (br_f (by decide) (br_f (by decide) (br_t rfl (⟨hii, ?_⟩))))))))))
  rw [ci, ef]
  by_cases k3 : K (f / 16) = 3
  · obtain ⟨l, x, _, _, _, x1, x2, x3, _⟩ := hc_l W C hv (hn_3 k3)
    have ne : ¬ A (hp_l L f) = -1 := by rw [x2]; exact ha_ne1 (by omega)
    refine xi_knd hf (fun _ => br_f (by decide) ⟨hii, hij, ?_⟩) (fun z => absurd k3 z)
    unfold wpX_opened
    refine xi_key3 W C hf hv k3 ?_
    rw [cj]
    by_cases e : A (hp_l R f) = F j
    · exact br_t e (xi_lft W C hf hv (hn_3 k3) (sz_fin hns (fun z => absurd z ne) (fun _ => h1 k3 e)))
    · exact br_f e (sz_fin hns (fun _ => h0 (fun z => e z.2)) (fun z => absurd rfl z))
  · exact xi_knd hf (fun z => absurd z k3) (fun _ => br_t rfl (sz_fin hns (fun _ => h0 (fun z => k3 z.1)) (fun z => absurd rfl z)))
theorem st_8 (J : hx_J n c ne nr ns ph kn K L R M A Z E r0 r1 rc F) (p1 : ph = 1) (hns : ns < 32) (hi : i < ns) (hj : j < ns) (hf : f < 256) (ef : F i = nI f) (af : A f = nI f) (hg : g < 256) (eg : F j = nI g) (h0 : ¬ (K (f / 16) = 4 ∧ K (hp_i A (hp_l R f) / 16) = 5 ∧ A (hp_l L (hp_i A (hp_l R f))) = F j) → post (-10) (nI n, 16, 32, ph, nI c, nI ne, nI nr, nI ns, kn, K, L, R, M, A, Z, E, r0, r1, rc, F)) (h1 : K (f / 16) = 4 → K (hp_i A (hp_l R f) / 16) = 5 → A (hp_l L (hp_i A (hp_l R f))) = F j → post (nI ns) (nI n, 16, 32, ph, nI c, nI ne, nI nr, nI (ns + 1), kn, K, L, R, M, A, Z, E, r0, r1, rc, upd F ns (A (hp_l L f)))) : wpX_step post (nI n, 16, 32, ph, nI c, nI ne, nI nr, nI ns, kn, K, L, R, M, A, Z, E, r0, r1, rc, F) (nI 8) (nI i) (nI j) v4 := by
  obtain ⟨b1, b2, b3, b4, b5, b6, b7⟩ := hj_b J
  have W := J.1.1
  have C := J.2.1.1
  refine br_f (by rw [p1]; decide) (br_t (nI_lt (b := 32) hns (by decide)) (br_f (by decide) (br_t (by decide) ?_)))
  have hii : vp_in (nI i) 32 := vp_in_nI (by omega) (by decide)
  have ci : (nI i).toNatClampNeg = i := nI_clamp (by omega)
  have hij : vp_in (nI j) 32 := vp_in_nI (by omega) (by decide)
  have cj : (nI j).toNatClampNeg = j := nI_clamp (by omega)
  refine br_f (by decide) (br_f (by decide) (br_f (by decide) (br_f (by decide) (br_f (by decide) (br_f (by decide) (br_f (by decide) (br_f (by decide) (br_f (by decide) (br_f (by decide) (br_t rfl (xi_s1 hi (by omega) (br_f (by decide) (xi_s1 hj (by omega) (br_f (by decide) (br_t (by decide) ?_)))))))))))))))
  have hv := hc_g C hf af
  refine br_f (by decide) (br_f (by decide) (br_f (by decide) (br_f (by decide) (br_f (by decide) (br_f (by decide) (br_f (by decide) (br_f (by decide) (br_f (by decide) (br_f (by decide) (br_t rfl (⟨hii, ?_⟩)))))))))))
  rw [ci, ef]
  by_cases k4 : K (f / 16) = 4
  · have n5 : ¬ K (f / 16) = 5 := by rw [k4]; decide
    obtain ⟨l, x, _, _, _, x1, x2, x3, _⟩ := hc_l W C hv (hn_4 k4)
    obtain ⟨l', w, _, _, _, w1, w2, w3, w4⟩ := hc_r W C hv (hn_4 k4) n5
    have ne : ¬ A (hp_l L f) = -1 := by rw [x2]; exact ha_ne1 (by omega)
    rw [w4] at h0 h1
    refine xi_knd hf (fun _ => br_f (by decide) ⟨hii, hij, ?_⟩) (fun z => absurd k4 z)
    unfold wpX_opened
    rw [cj]
    refine xi_key4 W C hf hv k4 w1 w2 w3 (fun k5 => ?_) (fun k5 => ?_)
    · by_cases e : A (hp_l L w) = F j
      · exact br_t e (xi_lft W C hf hv (hn_4 k4) (sz_fin hns (fun z => absurd z ne) (fun _ => h1 k4 k5 e)))
      · exact br_f e (sz_fin hns (fun _ => h0 (fun z => e z.2.2)) (fun z => absurd rfl z))
    · exact br_f (by rw [eg]; exact fun z => ha_ne1 (by omega) z.symm) (sz_fin hns (fun _ => h0 (fun z => k5 z.2.1)) (fun z => absurd rfl z))
  · exact xi_knd hf (fun z => absurd z k4) (fun _ => br_t rfl (sz_fin hns (fun _ => h0 (fun z => k4 z.1)) (fun z => absurd rfl z)))
theorem st_0 (J : hx_J n c ne nr ns ph kn K L R M A Z E r0 r1 rc F) (p1 : ph = 1) (hns : ns < 32) (hi : i < ne) (h1 : post (nI ns) (nI n, 16, 32, ph, nI c, nI ne, nI nr, nI (ns + 1), kn, K, L, R, M, A, Z, E, r0, r1, rc, upd F ns (A ((E i).toNatClampNeg * 16)))) : wpX_step post (nI n, 16, 32, ph, nI c, nI ne, nI nr, nI ns, kn, K, L, R, M, A, Z, E, r0, r1, rc, F) (nI 0) (nI i) v3 v4 := by
  obtain ⟨b1, b2, b3, b4, b5, b6, b7⟩ := hj_b J
  have W := J.1.1
  have C := J.2.1.1
  refine br_f (by rw [p1]; decide) (br_t (nI_lt (b := 32) hns (by decide)) (br_f (by decide) (br_t (by decide) ?_)))
  have hii : vp_in (nI i) 8 := vp_in_nI (by omega) (by decide)
  have ci : (nI i).toNatClampNeg = i := nI_clamp (by omega)
  obtain ⟨h, x, hh, eh, x1, x2, x3, _⟩ := he_x W C (J.2.2.1.1 i hi)
  rw [eh, nI_clamp (n := h) (by omega)] at h1
  have ne : ¬ A (h * 16) = -1 := by rw [x2]; exact ha_ne1 (by omega)
  refine br_f (by decide) (br_f (by decide) (br_t rfl ?_))
  refine hb_i hi (by omega) (br_t (by decide) (br_f (by decide) (br_f (by decide) (br_t rfl ⟨hii, ?_⟩))))
  rw [ci, eh, ha_16, nI_clamp (n := h * 16) (by omega)]
  exact ⟨vp_in_nI (by omega) (by decide), sz_fin hns (fun z => absurd z ne) (fun _ => h1)⟩
theorem xi_rr {post : Int32 → Prop} {i : Nat} {v3 v4 : Int32} (hi : i < nr) (h8 : nr ≤ 8) (h32 : ns ≤ 32) (h0 : (¬ r0 i = -1 → ∃ j, j < ns ∧ v3 = nI j) → (¬ r1 i = -1 → ∃ j, j < ns ∧ v4 = nI j) → post 0)
    (h3 : ¬ r0 i = -1 → (v3 < 0 ∨ nI ns ≤ v3) → post (-9)) (h4 : (¬ r0 i = -1 → ∃ j, j < ns ∧ v3 = nI j) → ¬ r1 i = -1 → (v4 < 0 ∨ nI ns ≤ v4) → post (-9)) : wpX_ruleRefusal post (nI n, 16, 32, ph, nI c, nI ne, nI nr, nI ns, kn, K, L, R, M, A, Z, E, r0, r1, rc, F) (nI i) v3 v4 := by
  have hii : vp_in (nI i) 8 := vp_in_nI (by omega) (by decide)
  have ci : (nI i).toNatClampNeg = i := nI_clamp (by omega)
  have main : (¬ r0 i = -1 → ∃ j, j < ns ∧ v3 = nI j) → wX_ruleRefusal_36 post (nI i) v4 (nI n) 16 32 ph (nI c) (nI ne) (nI nr) (nI ns) kn K L R M A Z E r0 r1 rc F := fun g3 => by
    refine ⟨hii, ?_⟩
    rw [ci]
    by_cases e : r1 i = -1
    · exact br_t e (h0 g3 (fun z => absurd e z))
    · rcases hp_ix v4 (c := ns) (by omega) with ⟨j, hj, rfl⟩ | h5
      · exact br_f e (xi_s1 hj (by omega) (br_f (by decide) (h0 g3 (fun _ => ⟨j, hj, rfl⟩))))
      · exact br_f e (xi_s0 h5 (br_t rfl (h4 g3 e h5)))
  refine hb_i2 hi (by omega) ⟨hii, ?_⟩
  rw [ci]
  by_cases e : r0 i = -1
  · exact br_t e (main (fun z => absurd e z))
  · rcases hp_ix v3 (c := ns) (by omega) with ⟨j, hj, rfl⟩ | h5
    · exact br_f e (xi_s1 hj (by omega) (br_f (by decide) (main (fun _ => ⟨j, hj, rfl⟩))))
    · exact br_f e (xi_s0 h5 (br_t rfl (h3 e h5)))
theorem xi_rr0 {post : Int32 → Prop} {v2 v3 v4 : Int32} (h : v2 < 0 ∨ nI nr ≤ v2) (hp : post (-4)) : wpX_ruleRefusal post (nI n, 16, 32, ph, nI c, nI ne, nI nr, nI ns, kn, K, L, R, M, A, Z, E, r0, r1, rc, F) v2 v3 v4 := hb_o2 h hp
theorem st_9 (J : hx_J n c ne nr ns ph kn K L R M A Z E r0 r1 rc F) (p1 : ph = 1) (hns : ns < 32) (hi : i < nr) (hE : ∀ e : Int32, e < 0 → ((¬ r0 i = -1 ∧ (v3 < 0 ∨ nI ns ≤ v3)) ∨ (¬ r1 i = -1 ∧ (v4 < 0 ∨ nI ns ≤ v4))) → post e (nI n, 16, 32, ph, nI c, nI ne, nI nr, nI ns, kn, K, L, R, M, A, Z, E, r0, r1, rc, F)) {r : Int32} (hr : hp_z n A (r0 i) (r1 i) (rc i) (F v3.toNatClampNeg) (F v4.toNatClampNeg) r) (h0 : r = -1 → post (-10) (nI n, 16, 32, ph, nI c, nI ne, nI nr, nI ns, kn, K, L, R, M, A, Z, E, r0, r1, rc, F)) (h1 : (¬ r0 i = -1 → ∃ j, j < ns ∧ v3 = nI j) → (¬ r1 i = -1 → ∃ j, j < ns ∧ v4 = nI j) → ¬ r = -1 → post (nI ns) (nI n, 16, 32, ph, nI c, nI ne, nI nr, nI (ns + 1), kn, K, L, R, M, A, Z, E, r0, r1, rc, upd F ns r)) : wpX_step post (nI n, 16, 32, ph, nI c, nI ne, nI nr, nI ns, kn, K, L, R, M, A, Z, E, r0, r1, rc, F) (nI 9) (nI i) v3 v4 := by
  obtain ⟨b1, b2, b3, b4, b5, b6, b7⟩ := hj_b J
  have W := J.1.1
  have C := J.2.1.1
  refine br_f (by rw [p1]; decide) (br_t (nI_lt (b := 32) hns (by decide)) (br_f (by decide) (br_t (by decide) ?_)))
  refine br_f (by decide) (br_f (by decide) (br_f (by decide) (br_f (by decide) (br_f (by decide) (br_f (by decide) (br_f (by decide) (br_f (by decide) (br_f (by decide) (br_f (by decide) (br_f (by decide) (br_t rfl (?_))))))))))))
  refine xi_rr hi b5 (by omega) (fun g3 g4 => br_t (by decide) ?_) (fun e h3 => br_f (by decide) (hE _ (by decide) (Or.inl ⟨e, h3⟩))) (fun g3 e h4 => br_f (by decide) (hE _ (by decide) (Or.inr ⟨e, h4⟩)))
  have hy3 : ¬ r0 i = -1 → vp_in v3 32 := fun e => by
    obtain ⟨j, hj, rfl⟩ := g3 e
    exact vp_in_nI (by omega) (by decide)
  have hy4 : ¬ r1 i = -1 → vp_in v4 32 := fun e => by
    obtain ⟨j, hj, rfl⟩ := g4 e
    exact vp_in_nI (by omega) (by decide)
  exact br_f (by decide) (br_f (by decide) (br_f (by decide) (br_f (by decide) (br_f (by decide) (br_f (by decide) (br_f (by decide) (br_f (by decide) (br_f (by decide) (br_f (by decide) (br_f (by decide) (br_t rfl (xi_rf W J.2.2.1.2.1 hi b5 hy3 hy4 hr (sz_fin hns h0 (h1 g3 g4))))))))))))))
theorem st_any {v1 v2 v3 v4 : Int32} (J : hx_J n c ne nr ns ph kn K L R M A Z E r0 r1 rc F) (p1 : ph = 1) (hE : ∀ e : Int32, post e (nI n, 16, 32, ph, nI c, nI ne, nI nr, nI ns, kn, K, L, R, M, A, Z, E, r0, r1, rc, F)) (hS : ns < 32 → ∀ g, g < 256 → A g = nI g → ¬ Z g = -1 → post (nI ns) (nI n, 16, 32, ph, nI c, nI ne, nI nr, nI (ns + 1), kn, K, L, R, M, A, Z, E, r0, r1, rc, upd F ns (nI g))) : wpX_step post (nI n, 16, 32, ph, nI c, nI ne, nI nr, nI ns, kn, K, L, R, M, A, Z, E, r0, r1, rc, F) v1 v2 v3 v4 := by
  obtain ⟨b1, b2, b3, b4, b5, b6, b7⟩ := hj_b J
  have W := J.1.1
  have C := J.2.1.1
  obtain ⟨_, hY, _, hF⟩ := J.2.2.2.resolve_left (fun z => absurd (p1.symm.trans z.1) (by decide))
  have q0 : ¬ ph = 0 := by rw [p1]; decide
  have hH : ∀ x, x < 256 → ¬ Z x = -1 → hp_H Z 300 x := fun x hx z => by
    rcases hY.1 x hx with a | ⟨_, j, b, e⟩
    · exact absurd a z
    · exact ⟨j, by omega, e⟩
  by_cases hns : ns < 32
  · have hS := hS hns
    have hlt : nI ns < 32 := nI_lt (b := 32) hns (by decide)
    have cl : ∀ k u v r a b, hp_r K L R A k u v r → ¬ k = 0 → ¬ k = 1 → a < 256 → u = nI a → ¬ Z a = -1 → (k = 5 ∨ (b < 256 ∧ v = nI b ∧ ¬ Z b = -1)) → ¬ r = -1 → post (nI ns) (nI n, 16, 32, ph, nI c, nI ne, nI nr, nI (ns + 1), kn, K, L, R, M, A, Z, E, r0, r1, rc, upd F ns r) := fun k u v r a b hr k0 k1 ha ea za hb hn => by
      rcases hr with ⟨g, g1, rfl, g3, _⟩ | ⟨z, _⟩
      · refine hS g g1 g3.1 (hY.2.1 g ⟨g1, g3.1, Or.inl ⟨g3.1, ?_, ?_, ?_⟩⟩)
        · exact fun z => z.elim (fun y => k0 (g3.2.1.symm.trans y)) (fun y => k1 (g3.2.1.symm.trans y))
        · have : hp_i A (hp_l L g) = a := by
            unfold hp_i
            rw [g3.2.2.1, ea, nI_clamp (by omega)]
          rw [this]
          exact hH a ha za
        · rcases hb with k5 | ⟨hb, eb, zb⟩
          · exact Or.inl (g3.2.1.trans k5)
          · rcases g3.2.2.2 with k5 | y
            · exact Or.inl (g3.2.1.trans k5)
            · have : hp_i A (hp_l R g) = b := by
                unfold hp_i
                rw [y, eb, nI_clamp (by omega)]
              rw [this]
              exact Or.inr (hH b hb zb)
      · exact absurd z hn
    have ct : ∀ t g, t < 256 → A t = nI t → ¬ Z t = -1 → g < 256 → A g = nI g → hp_E K L R A Z 300 t g → post (nI ns) (nI n, 16, 32, ph, nI c, nI ne, nI nr, nI (ns + 1), kn, K, L, R, M, A, Z, E, r0, r1, rc, upd F ns (nI g)) := fun t g t1 t2 t3 g1 g2 e => hS g g1 g2 (hY.2.1 g ⟨g1, g2, Or.inr (Or.inl ⟨t, t1, t2, hH t t1 t3, e⟩)⟩)
    rcases hp_ix v1 (c := 10) (by omega) with ⟨i, hi, rfl⟩ | h
    · obtain rfl | rfl | rfl | rfl | rfl | rfl | rfl | rfl | rfl | rfl : i = 0 ∨ i = 1 ∨ i = 2 ∨ i = 3 ∨ i = 4 ∨ i = 5 ∨ i = 6 ∨ i = 7 ∨ i = 8 ∨ i = 9 := by omega
      · rcases hp_ix v2 (c := ne) (by omega) with ⟨i, hi, rfl⟩ | h2
        · refine st_0 J p1 hns hi ?_
          obtain ⟨h, x, hh, eh, x1, x2, x3, x4⟩ := he_x W C (J.2.2.1.1 i hi)
          have z0 := hY.2.2.2.2 i hi
          rw [x4] at z0
          rw [eh, nI_clamp (n := h) (by omega), x2]
          exact hS x x1 x3 (by rw [z0]; decide)
        · exact br_f (by rw [p1]; decide) (br_t (nI_lt (b := 32) hns (by decide)) (br_f (by decide) (br_t (by decide) (br_f (by decide) (br_f (by decide) (br_t rfl (hb_o h2 (br_f (by decide) (hE _)))))))))
      · rcases hp_ix v2 (c := ns) (by omega) with ⟨i, hi, rfl⟩ | h2
        · rcases hp_ix v3 (c := ns) (by omega) with ⟨j, hj, rfl⟩ | h3
          · obtain ⟨f, hf, ef, af, zf⟩ := hF i hi
            obtain ⟨g, hg, eg, ag, zg⟩ := hF j hj
            obtain ⟨r, hr⟩ := hr_ex (K := K) (L := L) (R := R) (A := A) 2 (F i) (F j)
            exact st_1 J p1 hns hi hj hr (fun _ => hE _) (cl _ _ _ r f g hr (by decide) (by decide) hf ef zf (Or.inr ⟨hg, eg, zg⟩))
          · exact br_f (by rw [p1]; decide) (br_t (nI_lt (b := 32) hns (by decide)) (br_f (by decide) (br_t (by decide) (br_f (by decide) (br_f (by decide) (br_f (by decide) (br_t rfl (xi_s1 hi (by omega) (br_f (by decide) (xi_s0 h3 (br_t rfl (br_f (by decide) (hE _)))))))))))))
        · exact br_f (by rw [p1]; decide) (br_t (nI_lt (b := 32) hns (by decide)) (br_f (by decide) (br_t (by decide) (br_f (by decide) (br_f (by decide) (br_f (by decide) (br_t rfl (xi_s0 h2 (br_t rfl (br_f (by decide) (hE _)))))))))))
      · rcases hp_ix v2 (c := ns) (by omega) with ⟨i, hi, rfl⟩ | h2
        · rcases hp_ix v3 (c := ns) (by omega) with ⟨j, hj, rfl⟩ | h3
          · obtain ⟨f, hf, ef, af, zf⟩ := hF i hi
            obtain ⟨g, hg, eg, ag, zg⟩ := hF j hj
            obtain ⟨r, hr⟩ := hr_ex (K := K) (L := L) (R := R) (A := A) 3 (F i) (F j)
            exact st_2 J p1 hns hi hj hr (fun _ => hE _) (cl _ _ _ r f g hr (by decide) (by decide) hf ef zf (Or.inr ⟨hg, eg, zg⟩))
          · exact br_f (by rw [p1]; decide) (br_t (nI_lt (b := 32) hns (by decide)) (br_f (by decide) (br_t (by decide) (br_f (by decide) (br_f (by decide) (br_f (by decide) (br_f (by decide) (br_t rfl (xi_s1 hi (by omega) (br_f (by decide) (xi_s0 h3 (br_t rfl (br_f (by decide) (hE _))))))))))))))
        · exact br_f (by rw [p1]; decide) (br_t (nI_lt (b := 32) hns (by decide)) (br_f (by decide) (br_t (by decide) (br_f (by decide) (br_f (by decide) (br_f (by decide) (br_f (by decide) (br_t rfl (xi_s0 h2 (br_t rfl (br_f (by decide) (hE _))))))))))))
      · rcases hp_ix v2 (c := ns) (by omega) with ⟨i, hi, rfl⟩ | h2
        · rcases hp_ix v3 (c := ns) (by omega) with ⟨j, hj, rfl⟩ | h3
          · obtain ⟨f, hf, ef, af, zf⟩ := hF i hi
            obtain ⟨g, hg, eg, ag, zg⟩ := hF j hj
            obtain ⟨r, hr⟩ := hr_ex (K := K) (L := L) (R := R) (A := A) 4 (F i) (F j)
            exact st_3 J p1 hns hi hj hr (fun _ => hE _) (cl _ _ _ r f g hr (by decide) (by decide) hf ef zf (Or.inr ⟨hg, eg, zg⟩))
          · exact br_f (by rw [p1]; decide) (br_t (nI_lt (b := 32) hns (by decide)) (br_f (by decide) (br_t (by decide) (br_f (by decide) (br_f (by decide) (br_f (by decide) (br_f (by decide) (br_f (by decide) (br_t rfl (xi_s1 hi (by omega) (br_f (by decide) (xi_s0 h3 (br_t rfl (br_f (by decide) (hE _)))))))))))))))
        · exact br_f (by rw [p1]; decide) (br_t (nI_lt (b := 32) hns (by decide)) (br_f (by decide) (br_t (by decide) (br_f (by decide) (br_f (by decide) (br_f (by decide) (br_f (by decide) (br_f (by decide) (br_t rfl (xi_s0 h2 (br_t rfl (br_f (by decide) (hE _)))))))))))))
      · rcases hp_ix v2 (c := ns) (by omega) with ⟨i, hi, rfl⟩ | h2
        · obtain ⟨f, hf, ef, af, zf⟩ := hF i hi
          obtain ⟨r, hr⟩ := hr_ex (K := K) (L := L) (R := R) (A := A) 5 (F i) (-1)
          exact st_4 J p1 hns hi hr (fun _ => hE _) (cl _ _ _ r f 0 hr (by decide) (by decide) hf ef zf (Or.inl rfl))
        · exact br_f (by rw [p1]; decide) (br_t (nI_lt (b := 32) hns (by decide)) (br_f (by decide) (br_t (by decide) (br_f (by decide) (br_f (by decide) (br_f (by decide) (br_f (by decide) (br_f (by decide) (br_f (by decide) (br_t rfl (xi_s0 h2 (br_t rfl (br_f (by decide) (hE _))))))))))))))
      · rcases hp_ix v2 (c := ns) (by omega) with ⟨i, hi, rfl⟩ | h2
        · obtain ⟨f, hf, ef, af, zf⟩ := hF i hi
          refine st_5 J p1 hns hi hf ef af (fun _ => hE _) (fun k2 => ?_)
          obtain ⟨l, x, _, _, _, x1, x2, x3, _⟩ := hc_l W C (hc_g C hf af) (hn_2 k2)
          rw [x2]
          exact ct f x hf af zf x1 x3 (Or.inl ⟨k2, Or.inl x2⟩)
        · exact br_f (by rw [p1]; decide) (br_t (nI_lt (b := 32) hns (by decide)) (br_f (by decide) (br_t (by decide) (br_f (by decide) (br_f (by decide) (br_f (by decide) (br_f (by decide) (br_f (by decide) (br_f (by decide) (br_f (by decide) (br_t rfl (xi_s0 h2 (br_t rfl (br_f (by decide) (hE _)))))))))))))))
      · rcases hp_ix v2 (c := ns) (by omega) with ⟨i, hi, rfl⟩ | h2
        · obtain ⟨f, hf, ef, af, zf⟩ := hF i hi
          refine st_6 J p1 hns hi hf ef af (fun _ => hE _) (fun k2 => ?_)
          obtain ⟨l, x, _, _, _, x1, x2, x3, _⟩ := hc_r W C (hc_g C hf af) (hn_2 k2) (by rw [k2]; decide)
          rw [x2]
          exact ct f x hf af zf x1 x3 (Or.inl ⟨k2, Or.inr x2⟩)
        · exact br_f (by rw [p1]; decide) (br_t (nI_lt (b := 32) hns (by decide)) (br_f (by decide) (br_t (by decide) (br_f (by decide) (br_f (by decide) (br_f (by decide) (br_f (by decide) (br_f (by decide) (br_f (by decide) (br_f (by decide) (br_f (by decide) (br_t rfl (xi_s0 h2 (br_t rfl (br_f (by decide) (hE _))))))))))))))))
      · rcases hp_ix v2 (c := ns) (by omega) with ⟨i, hi, rfl⟩ | h2
        · rcases hp_ix v3 (c := ns) (by omega) with ⟨j, hj, rfl⟩ | h3
          · obtain ⟨f, hf, ef, af, zf⟩ := hF i hi
            obtain ⟨g, hg, eg, ag, zg⟩ := hF j hj
            refine st_7 J p1 hns hi hj hf ef af (fun _ => hE _) (fun k3 e => ?_)
            obtain ⟨l, x, _, _, _, x1, x2, x3, _⟩ := hc_l W C (hc_g C hf af) (hn_3 k3)
            rw [x2]
            have e2 : hp_i A (hp_l R f) = g := by
              unfold hp_i
              rw [e, eg, nI_clamp (by omega)]
            exact ct f x hf af zf x1 x3 (Or.inr (Or.inl ⟨k3, x2, by rw [e2]; exact hH g hg zg⟩))
          · exact br_f (by rw [p1]; decide) (br_t (nI_lt (b := 32) hns (by decide)) (br_f (by decide) (br_t (by decide) (br_f (by decide) (br_f (by decide) (br_f (by decide) (br_f (by decide) (br_f (by decide) (br_f (by decide) (br_f (by decide) (br_f (by decide) (br_f (by decide) (br_t rfl (xi_s1 hi (by omega) (br_f (by decide) (xi_s0 h3 (br_t rfl (br_f (by decide) (hE _)))))))))))))))))))
        · exact br_f (by rw [p1]; decide) (br_t (nI_lt (b := 32) hns (by decide)) (br_f (by decide) (br_t (by decide) (br_f (by decide) (br_f (by decide) (br_f (by decide) (br_f (by decide) (br_f (by decide) (br_f (by decide) (br_f (by decide) (br_f (by decide) (br_f (by decide) (br_t rfl (xi_s0 h2 (br_t rfl (br_f (by decide) (hE _)))))))))))))))))
      · rcases hp_ix v2 (c := ns) (by omega) with ⟨i, hi, rfl⟩ | h2
        · rcases hp_ix v3 (c := ns) (by omega) with ⟨j, hj, rfl⟩ | h3
          · obtain ⟨f, hf, ef, af, zf⟩ := hF i hi
            obtain ⟨g, hg, eg, ag, zg⟩ := hF j hj
            refine st_8 J p1 hns hi hj hf ef af hg eg (fun _ => hE _) (fun k4 k5 e => ?_)
            obtain ⟨l, x, _, _, _, x1, x2, x3, _⟩ := hc_l W C (hc_g C hf af) (hn_4 k4)
            rw [x2]
            have e2 : hp_i A (hp_l L (hp_i A (hp_l R f))) = g := by
              show (A (hp_l L (hp_i A (hp_l R f)))).toNatClampNeg = g
              rw [e, eg, nI_clamp (by omega)]
            exact ct f x hf af zf x1 x3 (Or.inr (Or.inr ⟨k4, x2, k5, by rw [e2]; exact hH g hg zg⟩))
          · exact br_f (by rw [p1]; decide) (br_t (nI_lt (b := 32) hns (by decide)) (br_f (by decide) (br_t (by decide) (br_f (by decide) (br_f (by decide) (br_f (by decide) (br_f (by decide) (br_f (by decide) (br_f (by decide) (br_f (by decide) (br_f (by decide) (br_f (by decide) (br_f (by decide) (br_t rfl (xi_s1 hi (by omega) (br_f (by decide) (xi_s0 h3 (br_t rfl (br_f (by decide) (hE _))))))))))))))))))))
        · exact br_f (by rw [p1]; decide) (br_t (nI_lt (b := 32) hns (by decide)) (br_f (by decide) (br_t (by decide) (br_f (by decide) (br_f (by decide) (br_f (by decide) (br_f (by decide) (br_f (by decide) (br_f (by decide) (br_f (by decide) (br_f (by decide) (br_f (by decide) (br_f (by decide) (br_t rfl (xi_s0 h2 (br_t rfl (br_f (by decide) (hE _))))))))))))))))))
      · rcases hp_ix v2 (c := nr) (by omega) with ⟨i, hi, rfl⟩ | h2
        · obtain ⟨r, hr⟩ := hz_ex n A (r0 i) (r1 i) (rc i) (F v3.toNatClampNeg) (F v4.toNatClampNeg)
          refine st_9 J p1 hns hi (fun e _ _ => hE e) hr (fun _ => hE _) (fun g3 g4 hn => ?_)
          obtain ⟨h, hh, eh⟩ := (J.2.2.1.2.1 i hi).2.2
          have hm : ∀ (x : Int32) (v : Int32) s, (¬ x = -1 → ∃ j, j < ns ∧ v = nI j) → hp_b A x s (F v.toNatClampNeg) → hp_m A Z 300 x s := fun x v s g b => by
            by_cases e : x = -1
            · exact Or.inl e
            · obtain ⟨j, hj, rfl⟩ := g e
              have b := b.resolve_left e
              rw [nI_clamp (by omega)] at b
              obtain ⟨f, hf, ef, af, zf⟩ := hF j hj
              have e2 : hp_i A (x.toNatClampNeg * 16 + s) = f := by
                unfold hp_i
                rw [b, ef, nI_clamp (by omega)]
              exact Or.inr (by rw [e2]; exact hH f hf zf)
          rcases hr with ⟨s, s1, s2, ⟨s3, s4⟩, _, s5⟩ | ⟨z, _⟩
          · have e2 : (h * 16 + s) % 16 = s := by omega
            have e3 : (rc i).toNatClampNeg = h := by rw [eh, nI_clamp (by omega)]
            obtain ⟨x, x1, x2, x3, _⟩ := hc_p W C (t := h * 16 + s) ⟨by omega, by rw [e2]; exact s2⟩
            rw [s5, e3, x2]
            refine hS x x1 x3 (hY.2.1 x ⟨x1, x3, Or.inr (Or.inr ⟨i, s, hi, s1, s2, ?_, hm _ _ _ g3 s3, hm _ _ _ g4 s4⟩)⟩)
            rw [e3]; exact x2
          · exact absurd z hn
        · exact br_f (by rw [p1]; decide) (br_t (nI_lt (b := 32) hns (by decide)) (br_f (by decide) (br_t (by decide) (br_f (by decide) (br_f (by decide) (br_f (by decide) (br_f (by decide) (br_f (by decide) (br_f (by decide) (br_f (by decide) (br_f (by decide) (br_f (by decide) (br_f (by decide) (br_f (by decide) (br_t rfl (xi_rr0 h2 (br_f (by decide) (hE _))))))))))))))))))
    · by_cases z : v1 < 0
      · exact br_f q0 (br_t hlt (br_t z (hE _)))
      · have z9 : ¬ v1 ≤ 9 := Int32.not_le.mpr (Int32.lt_of_lt_of_le (nI_lt (a := 9) (b := 10) (by omega) (by omega)) (h.resolve_left z))
        exact br_f q0 (br_t hlt (br_f z (br_f z9 (hE _))))
  · exact br_f q0 (br_f (nI_nlt (b := 32) (by omega) (by omega)) (hE _))
end HST
