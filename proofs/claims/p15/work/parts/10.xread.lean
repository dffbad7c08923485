/-! X's small readers -/
section HXR
variable {fN fT fP fp fc fe fr fs fk : Int32} {K L R M A Z E r0 r1 rc F : Nat → Int32} {post : Int32 → Prop} {n c g l : Nat}
theorem xi_gid (hg : g < 256) (h1 : A g = nI g → post 1) (h0 : ¬ A g = nI g → post 0) : wpX_isGroundId post (fN, fT, fP, fp, fc, fe, fr, fs, fk, K, L, R, M, A, Z, E, r0, r1, rc, F) (nI g) := by
  refine ⟨vp_in_nI hg (by decide), ?_⟩
  rw [nI_clamp (by omega)]
  exact ⟨h1, h0⟩
theorem xi_left (hg : g < 256) (hl : l < 16) (e : L (g / 16) = nI l) (h : post (A (l * 16 + g % 16))) : wpX_leftPart post (fN, fT, fP, fp, fc, fe, fr, fs, fk, K, L, R, M, A, Z, E, r0, r1, rc, F) (nI g) := by
  have h1 := ha_r16 (a := g) (by omega)
  have h2 := ha_d16 (a := g) (by omega)
  have h3 : nI l * 16 + nI (g % 16) = nI (l * 16 + g % 16) := by rw [ha_16, nI_add]
  refine ⟨by decide, ?_, by decide, ?_, ?_⟩
  · rw [h2]
    exact vp_in_nI (by omega) (by decide)
  · rw [h1, h2, nI_clamp (by omega), e, h3]
    exact vp_in_nI (by omega) (by decide)
  · rw [h1, h2, nI_clamp (n := g / 16) (by omega), e, h3, nI_clamp (by omega)]
    exact h
theorem xi_right1 (hg : g < 256) (e : R (g / 16) = -1) (h : post (-1)) : wpX_rightPart post (fN, fT, fP, fp, fc, fe, fr, fs, fk, K, L, R, M, A, Z, E, r0, r1, rc, F) (nI g) := by
  have h2 := ha_d16 (a := g) (by omega)
  refine ⟨by decide, ?_, ?_⟩
  · rw [h2]
    exact vp_in_nI (by omega) (by decide)
  · rw [h2, nI_clamp (n := g / 16) (by omega), e]
    exact nm_e (br_t rfl h)
theorem xi_right (hg : g < 256) (hl : l < 16) (e : R (g / 16) = nI l) (h : post (A (l * 16 + g % 16))) : wpX_rightPart post (fN, fT, fP, fp, fc, fe, fr, fs, fk, K, L, R, M, A, Z, E, r0, r1, rc, F) (nI g) := by
  have h1 := ha_r16 (a := g) (by omega)
  have h2 := ha_d16 (a := g) (by omega)
  have h3 : nI l * 16 + nI (g % 16) = nI (l * 16 + g % 16) := by rw [ha_16, nI_add]
  refine ⟨by decide, ?_, ?_⟩
  · rw [h2]
    exact vp_in_nI (by omega) (by decide)
  · rw [h1, h2, nI_clamp (n := g / 16) (by omega), e]
    refine nm_e (br_f (ha_ne1 (by omega)) ⟨by decide, ?_, ?_⟩)
    · rw [h3]
      exact vp_in_nI (by omega) (by decide)
    · rw [h3, nI_clamp (by omega)]
      exact h
theorem xi_find3 {k u v r : Int32} (W : hp_W n c K L R) (hv : ∀ g, g < 256 → A g = nI g → g / 16 < c) (nk : ¬ (k = 0 ∨ k = 1)) (n5 : k = 5 → v = -1) (hr : hp_r K L R A k u v r) (h : post r) :
    ∀ d j, j + d = 256 → (∀ q, q < j → ¬ hp_q K L R A k u v q) → wX_findGround_3 post k u v fN fT fP fp fc fe fr fs fk K L R M A Z E r0 r1 rc F (d + 1) (nI j) := by
  have w := W.2.2.1
  intro d
  induction d with
  | zero =>
    intro j hj hq
    have e : j = 256 := by omega
    subst e
    refine br_t (nI_le (a := 256) (b := 256) (by omega) (by decide)) ?_
    rcases hr with ⟨g, h1, h2, h3, _⟩ | ⟨h1, _⟩
    · exact absurd h3 (hq g h1)
    · rw [← h1]; exact h
  | succ d ih =>
    intro j hj hq
    have hj2 : j < 256 := by omega
    have nx : ¬ hp_q K L R A k u v j → ∀ x, x = nI j + 1 → wX_findGround_3 post k u v fN fT fP fp fc fe fr fs fk K L R M A Z E r0 r1 rc F (d + 1) x := fun z =>
      nm_r (nI_1 j) (ih (j + 1) (by omega) (lt_s hq z))
    have fd : hp_q K L R A k u v j → post (nI j) := fun z => by
      rcases hr with ⟨g, h1, h2, h3, h4⟩ | ⟨_, h2⟩
      · have e : g = j := by
          rcases Nat.lt_trichotomy g j with y | y | y
          · exact absurd h3 (hq g y)
          · exact y
          · exact absurd z (h4 j y)
        rw [← e, ← h2]; exact h
      · exact absurd z (h2 j hj2)
    have e16 := ha_d16 (a := j) (by omega)
    refine br_f (nI_ge (b := 256) hj2 (by decide)) (xi_gid hj2 (fun e => br_f (by decide) ⟨by decide, ?_, ?_⟩) (fun e => br_t rfl (nx (fun z => e z.1))))
    · rw [e16]
      exact vp_in_nI (by omega) (by decide)
    · rw [e16, nI_clamp (n := j / 16) (by omega)]
      by_cases hk : K (j / 16) = k
      · refine br_t hk ?_
        have na : ¬ (K (j / 16) = 0 ∨ K (j / 16) = 1) := by rw [hk]; exact nk
        have hc := hv j hj2 e
        obtain ⟨_, ⟨l, hl, el⟩, hR⟩ := hw_na na W hc
        have ell : hp_l L j = l * 16 + j % 16 := by
          unfold hp_l
          rw [el, nI_clamp (by omega)]
        refine xi_left hj2 (by omega) el ?_
        by_cases hu : A (l * 16 + j % 16) = u
        · refine br_t hu ?_
          have hu' : A (hp_l L j) = u := by rw [ell]; exact hu
          rcases hR with ⟨h5, e1⟩ | ⟨h234, r', hr', er⟩
          · have k5 : k = 5 := hk.symm.trans h5
            exact xi_right1 hj2 e1 (br_t (n5 k5).symm (fd ⟨e, hk, hu', Or.inl k5⟩))
          · have err : hp_l R j = r' * 16 + j % 16 := by
              unfold hp_l
              rw [er, nI_clamp (by omega)]
            refine xi_right hj2 (by omega) er ?_
            by_cases hvv : A (r' * 16 + j % 16) = v
            · exact br_t hvv (fd ⟨e, hk, hu', Or.inr (by rw [err]; exact hvv)⟩)
            · refine br_f hvv (nx (fun z => ?_))
              rcases z.2.2.2 with z | z
              · rw [← hk] at z
                rcases h234 with y | y | y <;> rw [y] at z <;> exact absurd z (by decide)
              · exact hvv (by rw [← err]; exact z)
        · exact br_f hu (nx (fun z => hu (by rw [← ell]; exact z.2.2.1)))
      · exact br_f hk (nx (fun z => hk z.2.1))
theorem xi_find {k u v r : Int32} (W : hp_W n c K L R) (hv : ∀ g, g < 256 → A g = nI g → g / 16 < c) (nk : ¬ (k = 0 ∨ k = 1)) (n5 : k = 5 → v = -1) (hr : hp_r K L R A k u v r) (h : post r) :
    wpX_findGround post (fN, fT, fP, fp, fc, fe, fr, fs, fk, K, L, R, M, A, Z, E, r0, r1, rc, F) k u v :=
  ⟨_, xi_find3 W hv nk n5 hr h 256 0 rfl (fun q hq => absurd hq (Nat.not_lt_zero q))⟩
end HXR
