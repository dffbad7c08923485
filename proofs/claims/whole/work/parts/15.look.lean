/-! groundId, rank, count, know -/
section HG
variable {n tm pm c ne nr ns : Nat} {ph kn : Int32} {K L R M A Z E r0 r1 rc F Ym Yc Yk : Nat → Int32}
theorem xg_id {post : Int32 → Prop} {j a b : Nat} (hc : c ≤ 16) (hn : n ≤ 4) (hj : j < c) (ha : a < n) (hb : b < n) (h : post (A (j * 16 + (4 * b + a)))) : wpX_groundId post (nI n, nI tm, nI pm, ph, nI c, nI ne, nI nr, nI ns, kn, K, L, R, M, A, Z, E, r0, r1, rc, F) (nI j) (nI a) (nI b) := by
  unfold wpX_groundId
  refine xi_h1 hj (by omega) (br_f (by decide) (xi_n1 ha (by omega) (br_f (by decide) (xi_n1 hb (by omega) (br_f (by decide) ?_)))))
  have e : nI j * 16 + nI a + 4 * nI b = nI (j * 16 + (4 * b + a)) := by
    rw [ha_16, ha_4, nI_add, nI_add]
    exact congrArg nI (by omega)
  rw [e, nI_clamp (by omega)]
  exact ⟨vp_in_nI (by omega) (by decide), h⟩
theorem xg_h {post : Int32 → Prop} {x y z : Int32} (h : x < 0 ∨ nI c ≤ x) (hp : post (-5)) : wpX_groundId post (nI n, nI tm, nI pm, ph, nI c, nI ne, nI nr, nI ns, kn, K, L, R, M, A, Z, E, r0, r1, rc, F) x y z := by
  unfold wpX_groundId
  exact xi_h0 h (br_t rfl hp)
theorem xg_x {post : Int32 → Prop} {y z : Int32} {j : Nat} (hc : c ≤ 16) (hj : j < c) (h : y < 0 ∨ nI n ≤ y) (hp : post (-4)) : wpX_groundId post (nI n, nI tm, nI pm, ph, nI c, nI ne, nI nr, nI ns, kn, K, L, R, M, A, Z, E, r0, r1, rc, F) (nI j) y z := by
  unfold wpX_groundId
  exact xi_h1 hj (by omega) (br_f (by decide) (xi_n0 h (br_t rfl hp)))
theorem xg_y {post : Int32 → Prop} {z : Int32} {j a : Nat} (hc : c ≤ 16) (hn : n ≤ 4) (hj : j < c) (ha : a < n) (h : z < 0 ∨ nI n ≤ z) (hp : post (-4)) : wpX_groundId post (nI n, nI tm, nI pm, ph, nI c, nI ne, nI nr, nI ns, kn, K, L, R, M, A, Z, E, r0, r1, rc, F) (nI j) (nI a) z := by
  unfold wpX_groundId
  exact xi_h1 hj (by omega) (br_f (by decide) (xi_n1 ha (by omega) (br_f (by decide) (xi_n0 h (br_t rfl hp)))))
/-- how many ground ids there are -/
def hp_w (A : Nat → Int32) : Nat → Nat
  | 0 => 0
  | m + 1 => hp_w A m + (if A m = nI m then 1 else 0)
theorem hw_le (m : Nat) : hp_w A m ≤ m := by
  induction m with
  | zero => exact Nat.le_refl _
  | succ m ih =>
    show hp_w A m + (if A m = nI m then 1 else 0) ≤ m + 1
    split <;> omega
theorem xu_4 {post : Int32 → Prop} (h : post (nI (hp_w A 256))) : wpX_universeSize post (nI n, nI tm, nI pm, ph, nI c, nI ne, nI nr, nI ns, kn, K, L, R, M, A, Z, E, r0, r1, rc, F) := by
  refine pk_loop (fun f i (_ : Unit) => wX_universeSize_4 post (nI n) (nI tm) (nI pm) ph (nI c) (nI ne) (nI nr) (nI ns) kn K L R M A Z E r0 r1 rc F f (nI (hp_w A i)) (nI i)) (fun _ _ => True) 256 0 () (by omega) trivial ?_ ?_
  · intro f s _
    exact br_t (nI_le (a := 256) (b := 256) (by omega) (by decide)) h
  · intro f i s hi _ nx
    have nx := nx () trivial
    refine br_f (nI_ge (b := 256) hi (by decide)) (xi_gid hi (fun e => br_f (by decide) ?_) (fun e => br_t rfl ?_))
    · rw [show hp_w A (i + 1) = hp_w A i + 1 from congrArg (hp_w A i + ·) (if_pos e)] at nx
      exact nm_r (nI_1 _) (nm_r (nI_1 i) nx)
    · rw [show hp_w A (i + 1) = hp_w A i from congrArg (hp_w A i + ·) (if_neg e)] at nx
      exact nm_r (nI_1 i) nx
theorem yu_75 {post : Int32 → SY → Prop} (h : post (nI (hp_w A 256)) (nI n, nI tm, nI pm, nI c, nI ne, nI nr, nI ns, ph, kn, K, L, R, M, E, r0, r1, rc, F, A, Yk)) : ∃ f, wY_count_75 post (nI n) (nI tm) (nI pm) (nI c) (nI ne) (nI nr) (nI ns) ph kn K L R M E r0 r1 rc F A Yk f 0 0 := by
  refine pk_loop (fun f i (_ : Unit) => wY_count_75 post (nI n) (nI tm) (nI pm) (nI c) (nI ne) (nI nr) (nI ns) ph kn K L R M E r0 r1 rc F A Yk f (nI (hp_w A i)) (nI i)) (fun _ _ => True) 256 0 () (by omega) trivial ?_ ?_
  · intro f s _
    exact br_t (nI_le (a := 256) (b := 256) (by omega) (by decide)) h
  · intro f i s hi _ nx
    have nx := nx () trivial
    refine br_f (nI_ge (b := 256) hi (by decide)) ⟨vp_in_nI hi (by decide), ?_⟩
    rw [nI_clamp (by omega)]
    by_cases e : A i = nI i
    · rw [show hp_w A (i + 1) = hp_w A i + 1 from congrArg (hp_w A i + ·) (if_pos e)] at nx
      exact br_t e (nm_r (nI_1 _) (nm_r (nI_1 i) nx))
    · rw [show hp_w A (i + 1) = hp_w A i from congrArg (hp_w A i + ·) (if_neg e)] at nx
      exact br_f e (nm_r (nI_1 i) nx)
end HG
theorem i_vc_groundId {k : Nat} {u : SX} {v : SY} (I : i_Rel k u v) (hk : k + 5 ≤ 2563) (v1 : Int32) (v2 : Int32) (v3 : Int32) : wpX_groundId (fun r => wpY_groundId (fun r' v' => r' = r ∧ i_Rel (k + 5) u v') v v1 v2 v3) u v1 v2 v3 := by
  have I' := I
  obtain ⟨n, tm, pm, c, ne, nr, ns, ph, kn, K, L, R, M, A, Z, E, r0, r1, rc, F, Ym, Yc, Yk, rfl, rfl, J⟩ := I
  obtain ⟨b1, b2, b3, b4, b5, b6, b7, b8⟩ := hj_b J
  have I2 := hj_mk (k := k + 5) (hj_ref J)
  rcases hp_ix v1 (c := c) (by omega) with ⟨j, hj, rfl⟩ | h
  · rcases hp_ix v2 (c := n) (by omega) with ⟨a, ha, rfl⟩ | h2
    · rcases hp_ix v3 (c := n) (by omega) with ⟨b, hb, rfl⟩ | h3
      · refine xg_id (by omega) b1 hj ha hb ?_
        unfold wpY_groundId
        refine yi_h1 hj (by omega) (br_f (by decide) (hb_i ha (by omega) (hb_i2 hb (by omega) (yj_ref J ?_))))
        have e : nI j * 16 + nI a + 4 * nI b = nI (j * 16 + (4 * b + a)) := by
          rw [ha_16, ha_4, nI_add, nI_add]
          exact congrArg nI (by omega)
        show vp_in (nI j * 16 + nI a + 4 * nI b) 256 ∧ (A (nI j * 16 + nI a + 4 * nI b).toNatClampNeg = A (j * 16 + (4 * b + a)) ∧ _)
        rw [e, nI_clamp (by omega)]
        exact ⟨vp_in_nI (by omega) (by decide), rfl, I2⟩
      · refine xg_y (by omega) b1 hj ha h3 ?_
        unfold wpY_groundId
        exact yi_h1 hj (by omega) (br_f (by decide) (hb_i ha (by omega) (hb_o2 h3 ⟨rfl, I'⟩)))
    · refine xg_x (by omega) hj h2 ?_
      unfold wpY_groundId
      exact yi_h1 hj (by omega) (br_f (by decide) (hb_o h2 ⟨rfl, I'⟩))
  · refine xg_h h ?_
    unfold wpY_groundId
    exact yi_h0 h (br_t rfl ⟨rfl, I'⟩)
theorem i_vc_rank {k : Nat} {u : SX} {v : SY} (I : i_Rel k u v) (hk : k + 5 ≤ 2563) (v1 : Int32) (v2 : Int32) (v3 : Int32) : wpX_rank (fun r => wpY_rank (fun r' v' => r' = r ∧ i_Rel (k + 5) u v') v v1 v2 v3) u v1 v2 v3 := by
  have I' := I
  obtain ⟨n, tm, pm, c, ne, nr, ns, ph, kn, K, L, R, M, A, Z, E, r0, r1, rc, F, Ym, Yc, Yk, rfl, rfl, J⟩ := I
  obtain ⟨b1, b2, b3, b4, b5, b6, b7, b8⟩ := hj_b J
  have I2 := hj_mk (k := k + 5) (hj_ref J)
  rcases J.2.2.2.2 with ⟨p0, _⟩ | ⟨p1, hz, hr⟩
  · exact br_t p0 (br_t p0 ⟨rfl, I'⟩)
  · have q0 : ¬ ph = 0 := by rw [p1]; decide
    refine br_f q0 ?_
    rcases hp_ix v1 (c := c) (by omega) with ⟨j, hj, rfl⟩ | h
    · rcases hp_ix v2 (c := n) (by omega) with ⟨a, ha, rfl⟩ | h2
      · rcases hp_ix v3 (c := n) (by omega) with ⟨b, hb, rfl⟩ | h3
        · have e : nI j * 16 + nI a + 4 * nI b = nI (j * 16 + (4 * b + a)) := by
            rw [ha_16, ha_4, nI_add, nI_add]
            exact congrArg nI (by omega)
          have e2 : (j * 16 + (4 * b + a)) % 16 = 4 * b + a := by omega
          obtain ⟨x, x1, x2, _, _⟩ := hc_p J.1.1 J.2.1.1 (t := j * 16 + (4 * b + a)) ⟨by omega, by rw [e2]; exact ⟨by omega, by omega⟩⟩
          have hin : vp_in (nI x) 256 := vp_in_nI x1 (by decide)
          have hcl : (nI x).toNatClampNeg = x := nI_clamp (by omega)
          refine xg_id (by omega) b1 hj ha hb ?_
          rw [x2]
          refine br_t (nI_pos' (by omega)) ⟨hin, ?_⟩
          refine br_f q0 (yi_h1 hj (by omega) (br_f (by decide) (hb_i ha (by omega) (hb_i2 hb (by omega) (yj_ref J ?_)))))
          refine ⟨?_, ?_⟩
          · rw [e]
            exact vp_in_nI (by omega) (by decide)
          · rw [e, nI_clamp (by omega), x2]
            refine nm_e (br_f (nI_pos (by omega)) ⟨hin, ?_⟩)
            rw [hz] at I2
            rw [hcl, hz]
            rcases hr x x1 with y | ⟨i, i1, i2⟩
            · refine br_f (by rw [y]; decide) ⟨y.symm, I2⟩
            · refine br_t (by rw [i2]; exact nI_pos' (by omega)) ⟨hin, rfl, I2⟩
        · exact xg_y (by omega) b1 hj ha h3 (br_f (by decide) (br_f q0 (yi_h1 hj (by omega) (br_f (by decide) (hb_i ha (by omega) (hb_o2 h3 ⟨rfl, I'⟩))))))
      · exact xg_x (by omega) hj h2 (br_f (by decide) (br_f q0 (yi_h1 hj (by omega) (br_f (by decide) (hb_o h2 ⟨rfl, I'⟩)))))
    · exact xg_h h (br_f (by decide) (br_f q0 (yi_h0 h (br_t rfl ⟨rfl, I'⟩))))
theorem i_vc_count {k : Nat} {u : SX} {v : SY} (I : i_Rel k u v) (hk : k + 5 ≤ 2563) (v1 : Int32) : wpX_count (fun r => wpY_count (fun r' v' => r' = r ∧ i_Rel (k + 5) u v') v v1) u v1 := by
  have I' := I
  obtain ⟨n, tm, pm, c, ne, nr, ns, ph, kn, K, L, R, M, A, Z, E, r0, r1, rc, F, Ym, Yc, Yk, rfl, rfl, J⟩ := I
  obtain ⟨b1, b2, b3, b4, b5, b6, b7, b8⟩ := hj_b J
  have I2 := hj_mk (k := k + 5) (hj_ref J)
  rcases hp_ix v1 (c := 7) (by omega) with ⟨i, hi, rfl⟩ | h2
  · have i0 : ¬ nI i < 0 := nI_pos (by omega)
    have i1 : ¬ (6 : Int32) < nI i := nI_nlt (b := i) (a := 6) (by omega) (by omega)
    have i2 : nI i ≤ (6 : Int32) := nI_le (a := i) (b := 6) (by omega) (by omega)
    refine br_f i0 (br_f i1 ?_)
    obtain rfl | rfl | rfl | rfl | rfl | rfl | rfl : i = 0 ∨ i = 1 ∨ i = 2 ∨ i = 3 ∨ i = 4 ∨ i = 5 ∨ i = 6 := by omega
    · exact br_t rfl (br_f i0 (br_t i2 (br_t rfl ⟨rfl, I'⟩)))
    · exact br_f (by decide) (br_t rfl (br_f i0 (br_t i2 (br_f (by decide) (br_t rfl ⟨rfl, I'⟩)))))
    · exact br_f (by decide) (br_f (by decide) (br_t rfl (br_f i0 (br_t i2 (br_f (by decide) (br_f (by decide) (br_t rfl ⟨rfl, I'⟩)))))))
    · exact br_f (by decide) (br_f (by decide) (br_f (by decide) (br_t rfl (br_f i0 (br_t i2 (br_f (by decide) (br_f (by decide) (br_f (by decide) (br_t rfl ⟨rfl, I'⟩)))))))))
    · exact br_f (by decide) (br_f (by decide) (br_f (by decide) (br_f (by decide) (br_t rfl (br_f i0 (br_t i2 (br_f (by decide) (br_f (by decide) (br_f (by decide) (br_f (by decide) (br_t rfl ⟨rfl, I'⟩)))))))))))
    · exact br_f (by decide) (br_f (by decide) (br_f (by decide) (br_f (by decide) (br_f (by decide) (br_t rfl (xu_4 (br_f i0 (br_t i2 (br_f (by decide) (br_f (by decide) (br_f (by decide) (br_f (by decide) (br_f (by decide) (br_t rfl (yj_ref J (yu_75 ⟨rfl, I2⟩))))))))))))))))
    · refine br_f (by decide) (br_f (by decide) (br_f (by decide) (br_f (by decide) (br_f (by decide) (br_f (by decide) (br_t rfl ?_))))))
      rcases hj_ph J with p | p
      · exact br_t p (br_f i0 (br_t i2 (br_f (by decide) (br_f (by decide) (br_f (by decide) (br_f (by decide) (br_f (by decide) (br_f (by decide) (br_t p ⟨rfl, I'⟩)))))))))
      · have q : ¬ ph = 0 := by rw [p]; decide
        exact br_f q (br_f i0 (br_t i2 (br_f (by decide) (br_f (by decide) (br_f (by decide) (br_f (by decide) (br_f (by decide) (br_f (by decide) (br_f q ⟨rfl, I'⟩)))))))))
  · by_cases z : v1 < 0
    · exact br_t z (br_t z ⟨rfl, I'⟩)
    · have z2 : (6 : Int32) < v1 := Int32.lt_of_lt_of_le (nI_lt (a := 6) (b := 7) (by omega) (by omega)) (h2.resolve_left z)
      exact br_f z (br_t z2 (br_f z (br_f (Int32.not_le.mpr z2) ⟨rfl, I'⟩)))
theorem i_vc_know {k : Nat} {u : SX} {v : SY} (I : i_Rel k u v) (hk : k + 5 ≤ 2563) (v1 : Int32) : wpX_know (fun r u' => wpY_know (fun r' v' => r' = r ∧ i_Rel (k + 5) u' v') v v1) u v1 := by
  have I' := I
  obtain ⟨n, tm, pm, c, ne, nr, ns, ph, kn, K, L, R, M, A, Z, E, r0, r1, rc, F, Ym, Yc, Yk, rfl, rfl, J⟩ := I
  obtain ⟨b1, b2, b3, b4, b5, b6, b7, b8⟩ := hj_b J
  have I2 := hj_mk (k := k + 5) (hj_ref J)
  rcases hj_ph J with p | p
  · have q : ¬ ph = 1 := by rw [p]; decide
    refine br_f q ?_
    rcases hp_ix v1 (c := c) (by omega) with ⟨j, hj, rfl⟩ | h
    · have hin : vp_in (nI j) 16 := vp_in_nI (by omega) (by decide)
      have hcl : (nI j).toNatClampNeg = j := nI_clamp (by omega)
      refine xi_h1 hj (by omega) (br_f (by decide) ⟨hin, ?_⟩)
      rw [hcl]
      by_cases m0 : M j = 0
      · refine br_t m0 ?_
        by_cases full : ne < 8
        · have f1 : nI ne < 8 := nI_lt (b := 8) full (by decide)
          have fin : vp_in (nI ne) 8 := vp_in_nI full (by decide)
          have fcl : (nI ne).toNatClampNeg = ne := nI_clamp (by omega)
          refine br_t f1 ⟨fin, nm_r (e' := upd E ne (nI j)) (by rw [fcl]) (nm_r (nI_1 ne) ?_)⟩
          refine br_f q (yi_h1 hj (by omega) (br_f (by decide) (yj_ref J ⟨hin, br_t (by rw [hcl]; exact m0) (br_t f1 ⟨fin, nm_r (e' := upd E ne (nI j)) (by rw [fcl]) (nm_r (nI_1 ne) ⟨nI_pred ne, ?_⟩)⟩)⟩)))
          refine hj_mk ⟨⟨J.1.1, b2, b3, b4, b5, by omega, b7, b8⟩, J.2.1, ⟨?_, J.2.2.1.2.1, J.2.2.1.2.2⟩, ⟨J.2.1.2.1, J.2.1.2.2.2⟩, J.2.2.2.2⟩
          intro e he
          by_cases e1 : e = ne
          · subst e1
            exact ⟨j, hj, pk_us⟩
          · obtain ⟨h0, h1, h2⟩ := J.2.2.1.1 e (by omega)
            exact ⟨h0, h1, by rw [pk_un e1]; exact h2⟩
        · have f1 : ¬ nI ne < 8 := nI_nlt (b := 8) (by omega) (by omega)
          exact br_f f1 (br_f q (yi_h1 hj (by omega) (br_f (by decide) (yj_ref J ⟨hin, br_t (by rw [hcl]; exact m0) (br_f f1 ⟨rfl, I2⟩)⟩))))
      · exact br_f m0 (br_f q (yi_h1 hj (by omega) (br_f (by decide) (yj_ref J ⟨hin, br_f (by rw [hcl]; exact m0) ⟨rfl, I2⟩⟩))))
    · exact xi_h0 h (br_t rfl (br_f q (yi_h0 h (br_t rfl ⟨rfl, I'⟩))))
  · exact br_t p (br_t p ⟨rfl, I'⟩)
