/-! what step reads: parts, keys, scans, rules, on both sides -/
section HXF
variable {fN fT fP fp fc fe fr fs fk : Int32} {K L R M A Z E r0 r1 rc F : Nat → Int32} {Yk Yc Ym : Nat → Int32} {post : Int32 → Prop} {n c f w i : Nat}
theorem xi_lft (W : hp_W n c K L R) (C : hp_C n c K L R A) (hf : f < 256) (hv : f / 16 < c ∧ hp_V n (f % 16)) (na : ¬ hp_a K f) (h : post (A (hp_l L f))) : wpX_leftPart post (fN, fT, fP, fp, fc, fe, fr, fs, fk, K, L, R, M, A, Z, E, r0, r1, rc, F) (nI f) := by
  obtain ⟨l, x, l1, l2, l3, _⟩ := hc_l W C hv na
  exact xi_left hf l1 l2 (by rw [← l3]; exact h)
theorem xi_rgt (W : hp_W n c K L R) (C : hp_C n c K L R A) (hf : f < 256) (hv : f / 16 < c ∧ hp_V n (f % 16)) (na : ¬ hp_a K f) (n5 : ¬ K (f / 16) = 5) (h : post (A (hp_l R f))) : wpX_rightPart post (fN, fT, fP, fp, fc, fe, fr, fs, fk, K, L, R, M, A, Z, E, r0, r1, rc, F) (nI f) := by
  obtain ⟨l, x, l1, l2, l3, _⟩ := hc_r W C hv na n5
  exact xi_right hf l1 l2 (by rw [← l3]; exact h)
theorem xi_knd {m : Int32} (hf : f < 256) (h1 : K (f / 16) = m → post 1) (h0 : ¬ K (f / 16) = m → post 0) : wpX_isOfKind post (fN, fT, fP, fp, fc, fe, fr, fs, fk, K, L, R, M, A, Z, E, r0, r1, rc, F) (nI f) m := by
  refine ⟨by decide, ?_, ?_⟩
  · rw [ha_d16 (by omega)]
    exact vp_in_nI (by omega) (by decide)
  · rw [ha_d16 (by omega), nI_clamp (by omega)]
    exact ⟨h1, h0⟩
theorem xi_key3 (W : hp_W n c K L R) (C : hp_C n c K L R A) (hf : f < 256) (hv : f / 16 < c ∧ hp_V n (f % 16)) (k : K (f / 16) = 3) (h : post (A (hp_l R f))) : wpX_openingKey post (fN, fT, fP, fp, fc, fe, fr, fs, fk, K, L, R, M, A, Z, E, r0, r1, rc, F) (nI f) := by
  unfold wpX_openingKey
  refine xi_rgt W C hf hv (hn_3 k) (by rw [k]; decide) ⟨by decide, ?_, ?_⟩
  · rw [ha_d16 (by omega)]
    exact vp_in_nI (by omega) (by decide)
  · rw [ha_d16 (by omega), nI_clamp (n := f / 16) (by omega)]
    exact br_t k h
theorem xi_key4 (W : hp_W n c K L R) (C : hp_C n c K L R A) (hf : f < 256) (hv : f / 16 < c ∧ hp_V n (f % 16)) (k : K (f / 16) = 4) (hw : w < 256) (ew : A (hp_l R f) = nI w) (aw : A w = nI w) (h1 : K (w / 16) = 5 → post (A (hp_l L w))) (h0 : ¬ K (w / 16) = 5 → post (-1)) : wpX_openingKey post (fN, fT, fP, fp, fc, fe, fr, fs, fk, K, L, R, M, A, Z, E, r0, r1, rc, F) (nI f) := by
  unfold wpX_openingKey
  refine xi_rgt W C hf hv (hn_4 k) (by rw [k]; decide) ?_
  rw [ew]
  refine ⟨by decide, ?_, ?_⟩
  · rw [ha_d16 (by omega)]
    exact vp_in_nI (by omega) (by decide)
  · rw [ha_d16 (a := f) (by omega), nI_clamp (n := f / 16) (by omega)]
    refine br_f (by rw [k]; decide) ⟨by decide, ?_, ?_⟩
    · rw [ha_d16 (by omega)]
      exact vp_in_nI (by omega) (by decide)
    · rw [ha_d16 (a := w) (by omega), nI_clamp (n := w / 16) (by omega)]
      by_cases k5 : K (w / 16) = 5
      · exact br_t k5 (xi_lft W C hw (hc_g C hw aw) (hn_5 k5) (h1 k5))
      · exact br_f k5 (h0 k5)
theorem xi_mt {x y : Int32} {s : Nat} (hx : x = -1 ∨ ∃ h, h < c ∧ x = nI h) (hc : c ≤ 16) (hs : s < 16) (hy : ¬ x = -1 → vp_in y 32) (h1 : hp_b A x s (F y.toNatClampNeg) → post 1) (h0 : ¬ hp_b A x s (F y.toNatClampNeg) → post 0) : wpX_isMatched post (fN, fT, fP, fp, fc, fe, fr, fs, fk, K, L, R, M, A, Z, E, r0, r1, rc, F) x (nI s) y := by
  by_cases e : x = -1
  · exact br_t e (h1 (Or.inl e))
  · obtain ⟨h, hh, rfl⟩ := hx.resolve_left e
    have e1 : nI h * 16 + nI s = nI (h * 16 + s) := by rw [ha_16, nI_add]
    refine br_f e ?_
    unfold hp_b at h1 h0
    rw [nI_clamp (by omega)] at h1 h0
    rw [e1, nI_clamp (by omega)]
    refine ⟨vp_in_nI (by omega) (by decide), hy e, ?_⟩
    by_cases d : A (h * 16 + s) = F y.toNatClampNeg
    · exact br_t d (h1 (Or.inr d))
    · exact br_f d (h0 (fun z => z.elim e d))
theorem xi_rf {y z r : Int32} {nr : Nat} (W : hp_W n c K L R) (hR : hp_R c nr r0 r1 rc) (hi : i < nr) (h8 : nr ≤ 8) (hy : ¬ r0 i = -1 → vp_in y 32) (hz : ¬ r1 i = -1 → vp_in z 32)
    (hr : hp_z n A (r0 i) (r1 i) (rc i) (F y.toNatClampNeg) (F z.toNatClampNeg) r) (h : post r) : wpX_ruleFact post (nI n, fT, fP, fp, fc, fe, fr, fs, fk, K, L, R, M, A, Z, E, r0, r1, rc, F) (nI i) y z := by
  have w := W.2.2.1
  have w4 := W.2.1
  have hin : vp_in (nI i) 8 := vp_in_nI (by omega) (by decide)
  have hcl : (nI i).toNatClampNeg = i := nI_clamp (by omega)
  obtain ⟨o1, o2, hc, hcc, ec⟩ := hR i hi
  refine pk_loop (fun f vy (_ : Unit) => wX_ruleFact_3 post (nI i) y z (nI n) fT fP fp fc fe fr fs fk K L R M A Z E r0 r1 rc F f (nI vy)) (fun vy _ => ∀ t, t < 4 * vy → hp_V n t → ¬ (hp_b A (r0 i) t (F y.toNatClampNeg) ∧ hp_b A (r1 i) t (F z.toNatClampNeg))) n 0 () (by omega) (fun q hq => absurd hq (Nat.not_lt_zero q)) ?_ ?_
  · intro f s hs
    refine br_t (nI_le (Nat.le_refl _) (by omega)) ?_
    rcases hr with ⟨s, a1, a2, a3, _⟩ | ⟨a1, _⟩
    · exact absurd a3 (hs s (by have := a2.2; omega) a2)
    · rw [← a1]; exact h
  · intro f vy s hvy hs nx
    refine br_f (nI_ge hvy (by omega)) ?_
    refine pk_loop (fun f' vx (_ : Unit) => wX_ruleFact_15 post (wX_ruleFact_3 post (nI i) y z (nI n) fT fP fp fc fe fr fs fk K L R M A Z E r0 r1 rc F f) (nI i) y z (nI vy) (nI n) fT fP fp fc fe fr fs fk K L R M A Z E r0 r1 rc F f' (nI vx)) (fun vx _ => ∀ t, t < 4 * vy + vx → hp_V n t → ¬ (hp_b A (r0 i) t (F y.toNatClampNeg) ∧ hp_b A (r1 i) t (F z.toNatClampNeg))) n 0 () (by omega) hs ?_ ?_
    · intro f' s' hs'
      refine br_t (nI_le (Nat.le_refl _) (by omega)) (nm_r (nI_1 vy) (nx () (fun t ht hv => ?_)))
      by_cases e : t < 4 * vy + n
      · exact hs' t e hv
      · have := hv.1
        omega
    · intro f' vx s' hvx hs' nx'
      have em : nI vx + 4 * nI vy = nI (4 * vy + vx) := by
        rw [ha_4, nI_add]
        exact congrArg nI (by omega)
      have hV : hp_V n (4 * vy + vx) := ⟨by omega, by omega⟩
      have nx' : ¬ (hp_b A (r0 i) (4 * vy + vx) (F y.toNatClampNeg) ∧ hp_b A (r1 i) (4 * vy + vx) (F z.toNatClampNeg)) → ∀ x, x = nI vx + 1 → wX_ruleFact_15 post (wX_ruleFact_3 post (nI i) y z (nI n) fT fP fp fc fe fr fs fk K L R M A Z E r0 r1 rc F f) (nI i) y z (nI vy) (nI n) fT fP fp fc fe fr fs fk K L R M A Z E r0 r1 rc F f' x := fun g =>
        nm_r (nI_1 vx) (nx' () (fun t ht hv => by
          by_cases e : t = 4 * vy + vx
          · rw [e]; exact g
          · exact hs' t (by omega) hv))
      refine br_f (nI_ge hvx (by omega)) (nm_r em ⟨hin, ?_⟩)
      rw [hcl]
      refine xi_mt o1 (by omega) (by omega) hy (fun m1 => br_f (by decide) ⟨hin, xi_mt o2 (by omega) (by omega) hz (fun m2 => br_f (by decide) ⟨hin, ?_⟩) (fun m2 => br_t rfl (nx' (fun g => m2 g.2)))⟩) (fun m1 => br_t rfl (nx' (fun g => m1 g.1)))
      have e1 : rc i * 16 + nI (4 * vy + vx) = nI (hc * 16 + (4 * vy + vx)) := by rw [ec, ha_16, nI_add]
      rw [e1, nI_clamp (by omega)]
      refine ⟨vp_in_nI (by omega) (by decide), ?_⟩
      rcases hr with ⟨s, a1, a2, a3, a4, a5⟩ | ⟨a1, a2⟩
      · have e : s = 4 * vy + vx := by
          rcases Nat.lt_trichotomy s (4 * vy + vx) with q | q | q
          · exact absurd a3 (hs' s q a2)
          · exact q
          · exact absurd ⟨m1, m2⟩ (a4 _ q hV)
        rw [ec, nI_clamp (by omega), e] at a5
        rw [← a5]; exact h
      · exact absurd ⟨m1, m2⟩ (a2 _ (by omega) hV)
end HXF
