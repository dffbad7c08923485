/-! what the law reads: cells, remainders, looks at a state -/
theorem ha_99 {a : Nat} (h : a < 2 ^ 31) : ¬ nI a = -99 := by
  intro e
  have := nI_pos (n := a) h
  rw [e] at this
  exact this (by decide)
theorem lq_cell {post : Int32 → Prop} {Lx k : Nat} {xs : Nat → Int32} {u : St0} (hk : k < 1000) (hL : Lx ≤ 260) (h : ∀ v, post v) : wpL_cell post Lx xs u (nI k) := by
  by_cases e : Lx ≤ k
  · exact br_t (nI_le e (by omega)) (h 0)
  · exact br_f (nI_ge (by omega) (by omega)) ⟨vp_in_nI (by omega) (by omega), h _⟩
theorem lq_md {post : Int32 → Prop} {d : Nat} {x : Int32} {u : St0} (h0 : 0 < d) (hd : d < 1000) (h : ∀ r, r < d → post (nI r)) : wpL_md post u x (nI d) := by
  have et : (nI d).toInt = (d : Int) := nI_toInt (by omega)
  refine ⟨nI_ne0 h0 (by omega), fun y ey => ?_⟩
  have hy : y.toInt = x.toInt.tmod (d : Int) := by rw [ey, rem_toInt, et]
  have hb := tmod_bounds (a := x.toInt) (M := (d : Int)) (by omega)
  rw [← hy] at hb
  by_cases z : 0 ≤ y
  · refine br_t z ?_
    obtain ⟨j, hj, rfl⟩ := nI_of (x := y) (Int32.not_lt.mpr z)
    rw [nI_toInt hj] at hb
    exact h j (by omega)
  · refine br_f z ?_
    have zi : y.toInt < 0 := by
      have := Int32.not_le.mp z
      rw [Int32.lt_iff_toInt_lt] at this
      have e0 : (0 : Int32).toInt = 0 := by decide
      omega
    have e : y + nI d = nI (y.toInt + d).toNat := by
      apply Int32.toInt_inj.mp
      rw [Int32.toInt_add, et, nI_toInt (by omega), Int.bmod_eq_of_le (by omega) (by omega)]
      omega
    rw [e]
    exact h _ (by omega)
section HLK
variable {n c ne nr ns : Nat} {ph kn : Int32} {K L R M A Z E r0 r1 rc F : Nat → Int32} {post : Int32 → Prop} {j h a b g : Nat} {x : Int32}
theorem lc_0 (hp : post (nI c)) : wpX_count post (nI n, 16, 32, ph, nI c, nI ne, nI nr, nI ns, kn, K, L, R, M, A, Z, E, r0, r1, rc, F) 0 := br_f (by decide) (br_f (by decide) (br_t rfl hp))
theorem lc_1 (hp : post (nI ne)) : wpX_count post (nI n, 16, 32, ph, nI c, nI ne, nI nr, nI ns, kn, K, L, R, M, A, Z, E, r0, r1, rc, F) 1 := br_f (by decide) (br_f (by decide) (br_f (by decide) (br_t rfl hp)))
theorem lc_2 (hp : post (nI nr)) : wpX_count post (nI n, 16, 32, ph, nI c, nI ne, nI nr, nI ns, kn, K, L, R, M, A, Z, E, r0, r1, rc, F) 2 := br_f (by decide) (br_f (by decide) (br_f (by decide) (br_f (by decide) (br_t rfl hp))))
theorem lc_3 (hp : post (nI ns)) : wpX_count post (nI n, 16, 32, ph, nI c, nI ne, nI nr, nI ns, kn, K, L, R, M, A, Z, E, r0, r1, rc, F) 3 := br_f (by decide) (br_f (by decide) (br_f (by decide) (br_f (by decide) (br_f (by decide) (br_t rfl hp)))))
theorem lc_6 (h1 : ph = 1) (hp : post kn) : wpX_count post (nI n, 16, 32, ph, nI c, nI ne, nI nr, nI ns, kn, K, L, R, M, A, Z, E, r0, r1, rc, F) 6 := br_f (by decide) (br_f (by decide) (br_f (by decide) (br_f (by decide) (br_f (by decide) (br_f (by decide) (br_f (by decide) (br_f (by decide) (br_t rfl (br_f (by rw [h1]; decide) hp)))))))))
theorem lf_1 (hj : j < ns) (h32 : ns ≤ 32) (hp : post (F j)) : wpX_stepFact post (nI n, 16, 32, ph, nI c, nI ne, nI nr, nI ns, kn, K, L, R, M, A, Z, E, r0, r1, rc, F) (nI j) := by
  unfold wpX_stepFact
  refine xi_s1 hj (by omega) (br_f (by decide) ⟨vp_in_nI (by omega) (by decide), ?_⟩)
  rw [nI_clamp (by omega)]
  exact hp
theorem lf_0 (hj : x < 0 ∨ nI ns ≤ x) (hp : post (-9)) : wpX_stepFact post (nI n, 16, 32, ph, nI c, nI ne, nI nr, nI ns, kn, K, L, R, M, A, Z, E, r0, r1, rc, F) x := by
  unfold wpX_stepFact
  exact xi_s0 hj (br_t rfl hp)
theorem lk_1 (hh : h < c) (hc : c ≤ 16) (hp : post (K h)) : wpX_kindOf post (nI n, 16, 32, ph, nI c, nI ne, nI nr, nI ns, kn, K, L, R, M, A, Z, E, r0, r1, rc, F) (nI h) := by
  unfold wpX_kindOf
  refine xi_h1 hh (by omega) (br_f (by decide) ⟨vp_in_nI (by omega) (by decide), ?_⟩)
  rw [nI_clamp (by omega)]
  exact hp
theorem lh_0 (hh : h < c) (hc : c ≤ 16) (hp : post (L h)) : wpX_child post (nI n, 16, 32, ph, nI c, nI ne, nI nr, nI ns, kn, K, L, R, M, A, Z, E, r0, r1, rc, F) (nI h) 0 := by
  unfold wpX_child
  refine xi_h1 hh (by omega) (br_f (by decide) (br_t rfl (br_t rfl ⟨vp_in_nI (by omega) (by decide), ?_⟩)))
  rw [nI_clamp (by omega)]
  exact hp
theorem lh_1 (hh : h < c) (hc : c ≤ 16) (hp : post (R h)) : wpX_child post (nI n, 16, 32, ph, nI c, nI ne, nI nr, nI ns, kn, K, L, R, M, A, Z, E, r0, r1, rc, F) (nI h) 1 := by
  unfold wpX_child
  refine xi_h1 hh (by omega) (br_f (by decide) (br_f (by decide) (br_t rfl (br_f (by decide) ⟨vp_in_nI (by omega) (by decide), ?_⟩))))
  rw [nI_clamp (by omega)]
  exact hp
theorem le_1 (hj : j < ne) (h8 : ne ≤ 8) (hp : post (E j)) : wpX_entry post (nI n, 16, 32, ph, nI c, nI ne, nI nr, nI ns, kn, K, L, R, M, A, Z, E, r0, r1, rc, F) (nI j) := by
  refine hb_i hj (by omega) ⟨vp_in_nI (by omega) (by decide), ?_⟩
  rw [nI_clamp (by omega)]
  exact hp
theorem lt_r0 (hj : j < nr) (h8 : nr ≤ 8) (hp : post (r0 j)) : wpX_ruleTerm post (nI n, 16, 32, ph, nI c, nI ne, nI nr, nI ns, kn, K, L, R, M, A, Z, E, r0, r1, rc, F) (nI j) 0 := by
  refine hb_i2 hj (by omega) (br_f (by decide) (br_f (by decide) (br_t rfl ⟨vp_in_nI (by omega) (by decide), ?_⟩)))
  rw [nI_clamp (by omega)]
  exact hp
theorem lt_r1 (hj : j < nr) (h8 : nr ≤ 8) (hp : post (r1 j)) : wpX_ruleTerm post (nI n, 16, 32, ph, nI c, nI ne, nI nr, nI ns, kn, K, L, R, M, A, Z, E, r0, r1, rc, F) (nI j) 1 := by
  refine hb_i2 hj (by omega) (br_f (by decide) (br_f (by decide) (br_f (by decide) (br_t rfl ⟨vp_in_nI (by omega) (by decide), ?_⟩))))
  rw [nI_clamp (by omega)]
  exact hp
theorem lt_r2 (hj : j < nr) (h8 : nr ≤ 8) (hp : post (rc j)) : wpX_ruleTerm post (nI n, 16, 32, ph, nI c, nI ne, nI nr, nI ns, kn, K, L, R, M, A, Z, E, r0, r1, rc, F) (nI j) 2 := by
  refine hb_i2 hj (by omega) (br_f (by decide) (br_f (by decide) (br_f (by decide) (br_f (by decide) (br_t rfl ⟨vp_in_nI (by omega) (by decide), ?_⟩)))))
  rw [nI_clamp (by omega)]
  exact hp
theorem lr_1 (J : hx_J n c ne nr ns ph kn K L R M A Z E r0 r1 rc F) (p1 : ph = 1) (hj : j < c) (ha : a < n) (hb : b < n) {w : Nat} (hw : A (j * 16 + (4 * b + a)) = nI w) (h256 : w < 256) (hp : post (Z w)) : wpX_rank post (nI n, 16, 32, ph, nI c, nI ne, nI nr, nI ns, kn, K, L, R, M, A, Z, E, r0, r1, rc, F) (nI j) (nI a) (nI b) := by
  obtain ⟨b1, b2, b3, b4, b5, b6, b7⟩ := hj_b J
  refine br_f (by rw [p1]; decide) (xg_id b3 b1 hj ha hb ?_)
  rw [hw]
  refine br_t (nI_pos' (by omega)) ⟨vp_in_nI h256 (by decide), ?_⟩
  rw [nI_clamp (by omega)]
  exact hp
/-- a place's ground id, by its handle and the two names of its code -/
theorem lg_p (J : hx_J n c ne nr ns ph kn K L R M A Z E r0 r1 rc F) {p : Nat} (hp : p / 16 < c) (hv : hp_V n (p % 16)) (h : post (A p)) : wpX_groundId post (nI n, 16, 32, ph, nI c, nI ne, nI nr, nI ns, kn, K, L, R, M, A, Z, E, r0, r1, rc, F) (nI (p / 16)) (nI (p % 4)) (nI (p / 4 % 4)) := by
  obtain ⟨b1, b2, b3, b4, b5, b6, b7⟩ := hj_b J
  have v1 := hv.1
  have v2 := hv.2
  refine xg_id b3 b1 hp (by omega) (by omega) ?_
  rw [show p / 16 * 16 + (4 * (p / 4 % 4) + p % 4) = p by omega]
  exact h
/-- .. of its left part, of its right part -/
theorem lg_l (J : hx_J n c ne nr ns ph kn K L R M A Z E r0 r1 rc F) {p l : Nat} (hl : l < c) (hv : hp_V n (p % 16)) (h : post (A (l * 16 + p % 16))) : wpX_groundId post (nI n, 16, 32, ph, nI c, nI ne, nI nr, nI ns, kn, K, L, R, M, A, Z, E, r0, r1, rc, F) (nI l) (nI (p % 4)) (nI (p / 4 % 4)) := by
  obtain ⟨b1, b2, b3, b4, b5, b6, b7⟩ := hj_b J
  have v1 := hv.1
  have v2 := hv.2
  refine xg_id b3 b1 hl (by omega) (by omega) ?_
  rw [show l * 16 + (4 * (p / 4 % 4) + p % 4) = l * 16 + p % 16 by omega]
  exact h
end HLK
theorem ha_s24 {a : Nat} (h : a < 2 ^ 31) : (nI a >>> ((2 : Int32) &&& 31)) &&& 3 = nI (a / 4 % 4) := by
  rw [ha_s2 h, ha_a3 (by omega)]
