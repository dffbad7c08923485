/-! rule -/
theorem hb_zo (a : Int32) : (0 : Int32) ||| a = a := by simp
theorem hb_oz (a : Int32) : a ||| (0 : Int32) = a := by simp
/-- a premise that may be given: none, or a handle; b: its variables -/
def hp_pm (c : Nat) (M : Nat → Int32) (x b : Int32) : Prop := (x = -1 ∧ b = 0) ∨ ∃ j, j < c ∧ x = nI j ∧ b = M j
def hp_r1 (x y : Int32) : Int32 := if x = -1 then y else x
def hp_r2 (x y : Int32) : Int32 := if x = -1 then -1 else y
section HU
variable {n tm pm c ne nr ns : Nat} {ph kn : Int32} {K L R M A Z E r0 r1 rc F Ym Yc Yk : Nat → Int32} {x y b1 b2 : Int32} {j : Nat}
theorem xr_155 {post : Int32 → SX → Prop} {z w : Int32} (h8 : nr < 8) (h : post (nI nr) (nI n, nI tm, nI pm, ph, nI c, nI ne, nI (nr + 1), nI ns, kn, K, L, R, M, A, Z, E, r0, upd r1 nr z, upd rc nr w, F)) : wX_rule_155 post w (nI nr) z (nI nr) (nI n) (nI tm) (nI pm) ph (nI c) (nI ne) (nI nr) (nI ns) kn K L R M A Z E r0 r1 rc F := by
  have fin : vp_in (nI nr) 8 := vp_in_nI h8 (by decide)
  have fcl : (nI nr).toNatClampNeg = nr := nI_clamp (by omega)
  exact ⟨fin, nm_r (e' := upd r1 nr z) (by rw [fcl]) ⟨fin, nm_r (e' := upd rc nr w) (by rw [fcl]) (nm_r (nI_1 nr) h)⟩⟩
theorem xr_138 {post : Int32 → SX → Prop} {z w : Int32} (h8 : nr < 8) (h : post (nI nr) (nI n, nI tm, nI pm, ph, nI c, nI ne, nI (nr + 1), nI ns, kn, K, L, R, M, A, Z, E, upd r0 nr z, upd r1 nr (hp_r2 x y), upd rc nr w, F)) : wX_rule_138 post x y w (nI nr) z (nI nr) (nI n) (nI tm) (nI pm) ph (nI c) (nI ne) (nI nr) (nI ns) kn K L R M A Z E r0 r1 rc F := by
  have fin : vp_in (nI nr) 8 := vp_in_nI h8 (by decide)
  have fcl : (nI nr).toNatClampNeg = nr := nI_clamp (by omega)
  refine ⟨fin, nm_r (e' := upd r0 nr z) (by rw [fcl]) ?_⟩
  unfold hp_r2 at h
  by_cases e : x = -1
  · rw [if_pos e] at h
    exact br_t e (xr_155 h8 h)
  · rw [if_neg e] at h
    exact br_f e (xr_155 h8 h)
theorem xr_84 {post : Int32 → SX → Prop} (hj : j < 16) (hn : nr ≤ 8)
    (h : if M j &&& ((b1 ||| b2) ^^^ (-1)) = 0 then (if nr < 8 then post (nI nr) (nI n, nI tm, nI pm, ph, nI c, nI ne, nI (nr + 1), nI ns, kn, K, L, R, M, A, Z, E, upd r0 nr (hp_r1 x y), upd r1 nr (hp_r2 x y), upd rc nr (nI j), F) else post (-6) (nI n, nI tm, nI pm, ph, nI c, nI ne, nI nr, nI ns, kn, K, L, R, M, A, Z, E, r0, r1, rc, F)) else post (-8) (nI n, nI tm, nI pm, ph, nI c, nI ne, nI nr, nI ns, kn, K, L, R, M, A, Z, E, r0, r1, rc, F)) :
    wX_rule_84 post x y (nI j) b2 b1 (nI n) (nI tm) (nI pm) ph (nI c) (nI ne) (nI nr) (nI ns) kn K L R M A Z E r0 r1 rc F := by
  have hcl : (nI j).toNatClampNeg = j := nI_clamp (by omega)
  refine nm_e ⟨vp_in_nI hj (by decide), ?_⟩
  rw [hcl]
  by_cases e : M j &&& ((b1 ||| b2) ^^^ (-1)) = 0
  · rw [if_pos e] at h
    refine br_t e ?_
    by_cases h8 : nr < 8
    · rw [if_pos h8] at h
      refine br_t (nI_lt (b := 8) h8 (by decide)) ?_
      unfold hp_r1 at h
      by_cases e1 : x = -1
      · rw [if_pos e1] at h
        exact br_t e1 (xr_138 h8 h)
      · rw [if_neg e1] at h
        exact br_f e1 (xr_138 h8 h)
    · rw [if_neg h8] at h
      exact br_f (nI_nlt (b := 8) (by omega) (by omega)) h
  · rw [if_neg e] at h
    exact br_f e h
theorem xr_27 {post : Int32 → SX → Prop} (hc : c ≤ 16) (hj : j < c) (hn : nr ≤ 8) (p1 : hp_pm c M x b1) (p2 : hp_pm c M y b2)
    (h : if M j &&& ((b1 ||| b2) ^^^ (-1)) = 0 then (if nr < 8 then post (nI nr) (nI n, nI tm, nI pm, ph, nI c, nI ne, nI (nr + 1), nI ns, kn, K, L, R, M, A, Z, E, upd r0 nr (hp_r1 x y), upd r1 nr (hp_r2 x y), upd rc nr (nI j), F) else post (-6) (nI n, nI tm, nI pm, ph, nI c, nI ne, nI nr, nI ns, kn, K, L, R, M, A, Z, E, r0, r1, rc, F)) else post (-8) (nI n, nI tm, nI pm, ph, nI c, nI ne, nI nr, nI ns, kn, K, L, R, M, A, Z, E, r0, r1, rc, F)) :
    wX_rule_27 post x y (nI j) (nI n) (nI tm) (nI pm) ph (nI c) (nI ne) (nI nr) (nI ns) kn K L R M A Z E r0 r1 rc F := by
  have h69 : wX_rule_69 post x y (nI j) b1 (nI n) (nI tm) (nI pm) ph (nI c) (nI ne) (nI nr) (nI ns) kn K L R M A Z E r0 r1 rc F := by
    rcases p2 with ⟨rfl, rfl⟩ | ⟨i, hi, rfl, rfl⟩
    · exact br_t rfl (xr_84 (by omega) hn h)
    · have hcl : (nI i).toNatClampNeg = i := nI_clamp (by omega)
      refine br_f (ha_ne1 (by omega)) ⟨vp_in_nI (by omega) (by decide), ?_⟩
      rw [hcl]
      exact xr_84 (by omega) hn h
  have h43 : wX_rule_43 post x y (nI j) (nI n) (nI tm) (nI pm) ph (nI c) (nI ne) (nI nr) (nI ns) kn K L R M A Z E r0 r1 rc F := by
    unfold wX_rule_43
    refine xi_h1 hj (by omega) (br_f (by decide) ?_)
    rcases p1 with ⟨rfl, rfl⟩ | ⟨i, hi, rfl, rfl⟩
    · exact br_t rfl h69
    · have hcl : (nI i).toNatClampNeg = i := nI_clamp (by omega)
      refine br_f (ha_ne1 (by omega)) ⟨vp_in_nI (by omega) (by decide), ?_⟩
      rw [hcl]
      exact h69
  rcases p2 with ⟨rfl, _⟩ | ⟨i, hi, rfl, _⟩
  · exact br_t rfl h43
  · exact br_f (ha_ne1 (by omega)) (xi_h1 hi (by omega) (br_f (by decide) h43))
theorem yr_159 {post : Int32 → SY → Prop} {z w : Int32} (h8 : nr < 8) (h : post (nI nr) (nI n, nI tm, nI pm, nI c, nI ne, nI (nr + 1), nI ns, ph, kn, K, L, R, Ym, E, r0, upd r1 nr z, upd rc nr w, F, Yc, Yk)) : wY_rule_159 post w z (nI nr) (nI n) (nI tm) (nI pm) (nI c) (nI ne) (nI nr) (nI ns) ph kn K L R Ym E r0 r1 rc F Yc Yk := by
  have fin : vp_in (nI nr) 8 := vp_in_nI h8 (by decide)
  have fcl : (nI nr).toNatClampNeg = nr := nI_clamp (by omega)
  refine ⟨fin, nm_r (e' := upd r1 nr z) (by rw [fcl]) ⟨fin, nm_r (e' := upd rc nr w) (by rw [fcl]) (nm_r (nI_1 nr) ?_)⟩⟩
  rw [nI_pred]
  exact h
theorem yr_140 {post : Int32 → SY → Prop} {z w : Int32} (h8 : nr < 8) (h : post (nI nr) (nI n, nI tm, nI pm, nI c, nI ne, nI (nr + 1), nI ns, ph, kn, K, L, R, Ym, E, upd r0 nr z, upd r1 nr (hp_r2 x y), upd rc nr w, F, Yc, Yk)) : wY_rule_140 post x y w z (nI nr) (nI n) (nI tm) (nI pm) (nI c) (nI ne) (nI nr) (nI ns) ph kn K L R Ym E r0 r1 rc F Yc Yk := by
  have fin : vp_in (nI nr) 8 := vp_in_nI h8 (by decide)
  have fcl : (nI nr).toNatClampNeg = nr := nI_clamp (by omega)
  refine ⟨fin, nm_r (e' := upd r0 nr z) (by rw [fcl]) ?_⟩
  unfold hp_r2 at h
  by_cases e : x = -1
  · rw [if_pos e] at h
    exact br_t e (yr_159 h8 h)
  · rw [if_neg e] at h
    exact br_f e (yr_159 h8 h)
theorem yr_93 {post : Int32 → SY → Prop} {w : Int32} (hj : j < 16) (hn : nr ≤ 8)
    (h : if Ym j &&& (w ^^^ (-1)) = 0 then (if nr < 8 then post (nI nr) (nI n, nI tm, nI pm, nI c, nI ne, nI (nr + 1), nI ns, ph, kn, K, L, R, Ym, E, upd r0 nr (hp_r1 x y), upd r1 nr (hp_r2 x y), upd rc nr (nI j), F, Yc, Yk) else post (-6) (nI n, nI tm, nI pm, nI c, nI ne, nI nr, nI ns, ph, kn, K, L, R, Ym, E, r0, r1, rc, F, Yc, Yk)) else post (-8) (nI n, nI tm, nI pm, nI c, nI ne, nI nr, nI ns, ph, kn, K, L, R, Ym, E, r0, r1, rc, F, Yc, Yk)) :
    wY_rule_93 post x y (nI j) w (nI n) (nI tm) (nI pm) (nI c) (nI ne) (nI nr) (nI ns) ph kn K L R Ym E r0 r1 rc F Yc Yk := by
  have hcl : (nI j).toNatClampNeg = j := nI_clamp (by omega)
  refine ⟨vp_in_nI hj (by decide), ?_⟩
  rw [hcl]
  by_cases e : Ym j &&& (w ^^^ (-1)) = 0
  · rw [if_pos e] at h
    refine br_t e ?_
    by_cases h8 : nr < 8
    · rw [if_pos h8] at h
      refine br_t (nI_lt (b := 8) h8 (by decide)) ?_
      unfold hp_r1 at h
      by_cases e1 : x = -1
      · rw [if_pos e1] at h
        exact br_t e1 (yr_140 h8 h)
      · rw [if_neg e1] at h
        exact br_f e1 (yr_140 h8 h)
    · rw [if_neg h8] at h
      exact br_f (nI_nlt (b := 8) (by omega) (by omega)) h
  · rw [if_neg e] at h
    exact br_f e h
theorem yr_77 {post : Int32 → SY → Prop} (hc : c ≤ 16) (hj : j < c) (hn : nr ≤ 8) (p2 : hp_pm c Ym y b2)
    (h : if Ym j &&& ((b1 ||| b2) ^^^ (-1)) = 0 then (if nr < 8 then post (nI nr) (nI n, nI tm, nI pm, nI c, nI ne, nI (nr + 1), nI ns, ph, kn, K, L, R, Ym, E, upd r0 nr (hp_r1 x y), upd r1 nr (hp_r2 x y), upd rc nr (nI j), F, Yc, Yk) else post (-6) (nI n, nI tm, nI pm, nI c, nI ne, nI nr, nI ns, ph, kn, K, L, R, Ym, E, r0, r1, rc, F, Yc, Yk)) else post (-8) (nI n, nI tm, nI pm, nI c, nI ne, nI nr, nI ns, ph, kn, K, L, R, Ym, E, r0, r1, rc, F, Yc, Yk)) :
    wY_rule_77 post x y (nI j) b1 (nI n) (nI tm) (nI pm) (nI c) (nI ne) (nI nr) (nI ns) ph kn K L R Ym E r0 r1 rc F Yc Yk := by
  rcases p2 with ⟨rfl, rfl⟩ | ⟨i, hi, rfl, rfl⟩
  · rw [hb_oz] at h
    exact br_t rfl (yr_93 (by omega) hn h)
  · have hcl : (nI i).toNatClampNeg = i := nI_clamp (by omega)
    exact br_f (ha_ne1 (by omega)) ⟨vp_in_nI (by omega) (by decide), nm_r (e' := b1 ||| Ym i) (by rw [hcl]) (yr_93 (by omega) hn h)⟩
theorem yr_27 {post : Int32 → SY → Prop} (J : hp_J n tm pm c ne nr ns ph kn K L R M A Z E r0 r1 rc F Ym Yc Yk) (hj : j < c) (p1 : hp_pm c M x b1) (p2 : hp_pm c M y b2)
    (h : if M j &&& ((b1 ||| b2) ^^^ (-1)) = 0 then (if nr < 8 then post (nI nr) (nI n, nI tm, nI pm, nI c, nI ne, nI (nr + 1), nI ns, ph, kn, K, L, R, M, E, upd r0 nr (hp_r1 x y), upd r1 nr (hp_r2 x y), upd rc nr (nI j), F, A, Yk) else post (-6) (nI n, nI tm, nI pm, nI c, nI ne, nI nr, nI ns, ph, kn, K, L, R, M, E, r0, r1, rc, F, A, Yk)) else post (-8) (nI n, nI tm, nI pm, nI c, nI ne, nI nr, nI ns, ph, kn, K, L, R, M, E, r0, r1, rc, F, A, Yk)) :
    wY_rule_27 post x y (nI j) (nI n) (nI tm) (nI pm) (nI c) (nI ne) (nI nr) (nI ns) ph kn K L R Ym E r0 r1 rc F Yc Yk := by
  obtain ⟨q1, q2, q3, q4, q5, q6, q7, q8⟩ := hj_b J
  have h43 : wY_rule_43 post x y (nI j) (nI n) (nI tm) (nI pm) (nI c) (nI ne) (nI nr) (nI ns) ph kn K L R Ym E r0 r1 rc F Yc Yk := by
    unfold wY_rule_43
    refine yi_h1 hj (by omega) (br_f (by decide) (yj_ref J ?_))
    rcases p1 with ⟨rfl, rfl⟩ | ⟨i, hi, rfl, rfl⟩
    · exact br_t rfl (yr_77 (by omega) hj q7 p2 h)
    · have hcl : (nI i).toNatClampNeg = i := nI_clamp (by omega)
      exact br_f (ha_ne1 (by omega)) ⟨vp_in_nI (by omega) (by decide), nm_r (e' := M i) (by rw [hcl, hb_zo]) (yr_77 (by omega) hj q7 p2 h)⟩
  rcases p2 with ⟨rfl, _⟩ | ⟨i, hi, rfl, _⟩
  · exact br_t rfl h43
  · exact br_f (ha_ne1 (by omega)) (yi_h1 hi (by omega) (br_f (by decide) h43))
theorem hp_pmo (x : Int32) (M : Nat → Int32) {c : Nat} (hc : c ≤ 16) : (∃ b, hp_pm c M x b) ∨ (¬ x = -1 ∧ (x < 0 ∨ nI c ≤ x)) := by
  by_cases e : x = -1
  · exact Or.inl ⟨0, Or.inl ⟨e, rfl⟩⟩
  · rcases hp_ix x (c := c) (by omega) with ⟨j, hj, rfl⟩ | h
    · exact Or.inl ⟨M j, Or.inr ⟨j, hj, rfl, rfl⟩⟩
    · exact Or.inr ⟨e, h⟩
theorem hp_pm1 (h : hp_pm c M x b1) : x = -1 ∨ ∃ i, i < c ∧ x = nI i := h.elim (fun z => Or.inl z.1) (fun ⟨i, a, b, _⟩ => Or.inr ⟨i, a, b⟩)
end HU
theorem i_vc_rule {k : Nat} {u : SX} {v : SY} (I : i_Rel k u v) (hk : k + 5 ≤ 2563) (v1 : Int32) (v2 : Int32) (v3 : Int32) : wpX_rule (fun r u' => wpY_rule (fun r' v' => r' = r ∧ i_Rel (k + 5) u' v') v v1 v2 v3) u v1 v2 v3 := by
  have I' := I
  obtain ⟨n, tm, pm, c, ne, nr, ns, ph, kn, K, L, R, M, A, Z, E, r0, r1, rc, F, Ym, Yc, Yk, rfl, rfl, J⟩ := I
  obtain ⟨b1, b2, b3, b4, b5, b6, b7, b8⟩ := hj_b J
  have I2 := hj_mk (k := k + 5) (hj_ref J)
  have c16 : c ≤ 16 := by omega
  rcases hj_ph J with p | p
  · have q : ¬ ph = 1 := by rw [p]; decide
    refine br_f q ?_
    rcases hp_pmo v1 M c16 with ⟨w1, p1⟩ | ⟨n1, h1⟩
    · -- both first steps alike
      have gx : ∀ (post : Int32 → SX → Prop), wX_rule_27 post v1 v2 v3 (nI n) (nI tm) (nI pm) ph (nI c) (nI ne) (nI nr) (nI ns) kn K L R M A Z E r0 r1 rc F → (v1 = -1 → wX_rule_27 post v1 v2 v3 (nI n) (nI tm) (nI pm) ph (nI c) (nI ne) (nI nr) (nI ns) kn K L R M A Z E r0 r1 rc F) ∧ (¬ v1 = -1 → wpX_isHandle (fun r => (r = 0 → post (-5) (nI n, nI tm, nI pm, ph, nI c, nI ne, nI nr, nI ns, kn, K, L, R, M, A, Z, E, r0, r1, rc, F)) ∧ (¬ r = 0 → wX_rule_27 post v1 v2 v3 (nI n) (nI tm) (nI pm) ph (nI c) (nI ne) (nI nr) (nI ns) kn K L R M A Z E r0 r1 rc F)) (nI n, nI tm, nI pm, ph, nI c, nI ne, nI nr, nI ns, kn, K, L, R, M, A, Z, E, r0, r1, rc, F) v1) := fun post h => by
        rcases hp_pm1 p1 with rfl | ⟨i, hi, rfl⟩
        · exact br_t rfl h
        · exact br_f (ha_ne1 (by omega)) (xi_h1 hi (by omega) (br_f (by decide) h))
      have gy : ∀ (post : Int32 → SY → Prop), wY_rule_27 post v1 v2 v3 (nI n) (nI tm) (nI pm) (nI c) (nI ne) (nI nr) (nI ns) ph kn K L R Ym E r0 r1 rc F Yc Yk → wpY_rule post (nI n, nI tm, nI pm, nI c, nI ne, nI nr, nI ns, ph, kn, K, L, R, Ym, E, r0, r1, rc, F, Yc, Yk) v1 v2 v3 := fun post h => by
        refine br_f q ?_
        rcases hp_pm1 p1 with rfl | ⟨i, hi, rfl⟩
        · exact br_t rfl h
        · exact br_f (ha_ne1 (by omega)) (yi_h1 hi (by omega) (br_f (by decide) h))
      refine gx _ ?_
      rcases hp_pmo v2 M c16 with ⟨w2, p2⟩ | ⟨n2, h2⟩
      · rcases hp_ix v3 (c := c) (by omega) with ⟨j, hj, rfl⟩ | h3
        · refine xr_27 c16 hj b7 p1 p2 ?_
          by_cases e : M j &&& ((w1 ||| w2) ^^^ (-1)) = 0
          · rw [if_pos e]
            by_cases h8 : nr < 8
            · rw [if_pos h8]
              refine gy _ (yr_27 J hj p1 p2 ?_)
              rw [if_pos e, if_pos h8]
              refine ⟨rfl, hj_mk ⟨⟨J.1.1, b2, b3, b4, b5, b6, by omega, b8⟩, J.2.1, ⟨J.2.2.1.1, ?_, J.2.2.1.2.2⟩, ⟨J.2.1.2.1, J.2.1.2.2.2⟩, J.2.2.2.2⟩⟩
              intro r hr
              by_cases er : r = nr
              · subst er
                rw [pk_us, pk_us, pk_us]
                have o1 : v1 = -1 ∨ ∃ h, h < c ∧ v1 = nI h := hp_pm1 p1
                have o2 : v2 = -1 ∨ ∃ h, h < c ∧ v2 = nI h := hp_pm1 p2
                refine ⟨?_, ?_, j, hj, rfl⟩
                · unfold hp_r1
                  split
                  · exact o2
                  · exact o1
                · unfold hp_r2
                  split
                  · exact Or.inl rfl
                  · exact o2
              · rw [pk_un er, pk_un er, pk_un er]
                exact J.2.2.1.2.1 r (by omega)
            · rw [if_neg h8]
              refine gy _ (yr_27 J hj p1 p2 ?_)
              rw [if_pos e, if_neg h8]
              exact ⟨rfl, I2⟩
          · rw [if_neg e]
            refine gy _ (yr_27 J hj p1 p2 ?_)
            rw [if_neg e]
            exact ⟨rfl, I2⟩
        · have hx : wX_rule_43 (fun r u' => wpY_rule (fun r' v' => r' = r ∧ i_Rel (k + 5) u' v') (nI n, nI tm, nI pm, nI c, nI ne, nI nr, nI ns, ph, kn, K, L, R, Ym, E, r0, r1, rc, F, Yc, Yk) v1 v2 v3) v1 v2 v3 (nI n) (nI tm) (nI pm) ph (nI c) (nI ne) (nI nr) (nI ns) kn K L R M A Z E r0 r1 rc F := by
            refine xi_h0 h3 (br_t rfl (gy _ ?_))
            rcases hp_pm1 p2 with rfl | ⟨i, hi, rfl⟩
            · exact br_t rfl (yi_h0 h3 (br_t rfl ⟨rfl, I'⟩))
            · exact br_f (ha_ne1 (by omega)) (yi_h1 hi (by omega) (br_f (by decide) (yi_h0 h3 (br_t rfl ⟨rfl, I'⟩))))
          rcases hp_pm1 p2 with e2 | ⟨i, hi, e2⟩
          · exact br_t e2 hx
          · refine br_f (by rw [e2]; exact ha_ne1 (by omega)) ?_
            have := xi_h1 (fN := nI n) (fT := nI tm) (fP := nI pm) (fp := ph) (fe := nI ne) (fr := nI nr) (fs := nI ns) (fk := kn) (K := K) (L := L) (R := R) (M := M) (A := A) (Z := Z) (E := E) (r0 := r0) (r1 := r1) (rc := rc) (F := F) (c := c) (post := fun r => (r = 0 → wpY_rule (fun r' v' => r' = (-5) ∧ i_Rel (k + 5) (nI n, nI tm, nI pm, ph, nI c, nI ne, nI nr, nI ns, kn, K, L, R, M, A, Z, E, r0, r1, rc, F) v') (nI n, nI tm, nI pm, nI c, nI ne, nI nr, nI ns, ph, kn, K, L, R, Ym, E, r0, r1, rc, F, Yc, Yk) v1 v2 v3) ∧ (¬ r = 0 → wX_rule_43 (fun r u' => wpY_rule (fun r' v' => r' = r ∧ i_Rel (k + 5) u' v') (nI n, nI tm, nI pm, nI c, nI ne, nI nr, nI ns, ph, kn, K, L, R, Ym, E, r0, r1, rc, F, Yc, Yk) v1 v2 v3) v1 v2 v3 (nI n) (nI tm) (nI pm) ph (nI c) (nI ne) (nI nr) (nI ns) kn K L R M A Z E r0 r1 rc F)) hi (by omega) (br_f (by decide) hx)
            rw [← e2] at this
            exact this
      · exact br_f n2 (xi_h0 h2 (br_t rfl (gy _ (br_f n2 (yi_h0 h2 (br_t rfl ⟨rfl, I'⟩))))))
    · exact br_f n1 (xi_h0 h1 (br_t rfl (br_f q (br_f n1 (yi_h0 h1 (br_t rfl ⟨rfl, I'⟩))))))
  · exact br_t p (br_t p ⟨rfl, I'⟩)
