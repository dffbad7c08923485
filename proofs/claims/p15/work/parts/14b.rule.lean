/-! rule -/
theorem hb_zo (a : Int32) : (0 : Int32) ||| a = a := by simp
theorem hb_oz (a : Int32) : a ||| (0 : Int32) = a := by simp
/-- a premise that may be given: none, or a handle; b: its variables -/
def hp_pm (c : Nat) (M : Nat → Int32) (x b : Int32) : Prop := (x = -1 ∧ b = 0) ∨ ∃ j, j < c ∧ x = nI j ∧ b = M j
def hp_r1 (x y : Int32) : Int32 := if x = -1 then y else x
def hp_r2 (x y : Int32) : Int32 := if x = -1 then -1 else y
section HU
variable {n c ne nr ns : Nat} {ph kn : Int32} {K L R M A Z E r0 r1 rc F : Nat → Int32} {x y b1 b2 : Int32} {j : Nat}
theorem xr_155 {post : Int32 → St2 → Prop} {z w : Int32} (h8 : nr < 8) (h : post (nI nr) (nI n, 16, 32, ph, nI c, nI ne, nI (nr + 1), nI ns, kn, K, L, R, M, A, Z, E, r0, upd r1 nr z, upd rc nr w, F)) : wX_rule_155 post w (nI nr) z (nI nr) (nI n) 16 32 ph (nI c) (nI ne) (nI nr) (nI ns) kn K L R M A Z E r0 r1 rc F := by
  have fin : vp_in (nI nr) 8 := vp_in_nI h8 (by decide)
  have fcl : (nI nr).toNatClampNeg = nr := nI_clamp (by omega)
  exact ⟨fin, nm_r (e' := upd r1 nr z) (by rw [fcl]) ⟨fin, nm_r (e' := upd rc nr w) (by rw [fcl]) (nm_r (nI_1 nr) h)⟩⟩
theorem xr_138 {post : Int32 → St2 → Prop} {z w : Int32} (h8 : nr < 8) (h : post (nI nr) (nI n, 16, 32, ph, nI c, nI ne, nI (nr + 1), nI ns, kn, K, L, R, M, A, Z, E, upd r0 nr z, upd r1 nr (hp_r2 x y), upd rc nr w, F)) : wX_rule_138 post x y w (nI nr) z (nI nr) (nI n) 16 32 ph (nI c) (nI ne) (nI nr) (nI ns) kn K L R M A Z E r0 r1 rc F := by
  have fin : vp_in (nI nr) 8 := vp_in_nI h8 (by decide)
  have fcl : (nI nr).toNatClampNeg = nr := nI_clamp (by omega)
  refine ⟨fin, nm_r (e' := upd r0 nr z) (by rw [fcl]) ?_⟩
  unfold hp_r2 at h
  by_cases e : x = -1
  · rw [if_pos e] at h
    exact br_t e (xr_155 h8 h)
  · rw [if_neg e] at h
    exact br_f e (xr_155 h8 h)
theorem xr_84 {post : Int32 → St2 → Prop} (hj : j < 16) (hn : nr ≤ 8)
    (h : if M j &&& ((b1 ||| b2) ^^^ (-1)) = 0 then (if nr < 8 then post (nI nr) (nI n, 16, 32, ph, nI c, nI ne, nI (nr + 1), nI ns, kn, K, L, R, M, A, Z, E, upd r0 nr (hp_r1 x y), upd r1 nr (hp_r2 x y), upd rc nr (nI j), F) else post (-6) (nI n, 16, 32, ph, nI c, nI ne, nI nr, nI ns, kn, K, L, R, M, A, Z, E, r0, r1, rc, F)) else post (-8) (nI n, 16, 32, ph, nI c, nI ne, nI nr, nI ns, kn, K, L, R, M, A, Z, E, r0, r1, rc, F)) :
    wX_rule_84 post x y (nI j) b2 b1 (nI n) 16 32 ph (nI c) (nI ne) (nI nr) (nI ns) kn K L R M A Z E r0 r1 rc F := by
  have hcl : (nI j).toNatClampNeg = j := nI_clamp (by omega)
  refine nm_e ⟨vp_in_nI hj (by decide), ?_⟩
  rw [hcl]
  by_cases e : M j &&& ((b1 ||| b2) ^^^ (-1)) = 0
  · rw [if_pos e] at h
    refine br_t e ?_
    by_cases h8 : nr < 8
    · rw [if_pos h8] at h
      refine br_t (nI_lt (b := 8) h8 (by decide)) ?_
      unfold hp_r1 at h
      by_cases e1 : x = -1
      · rw [if_pos e1] at h
        exact br_t e1 (xr_138 h8 h)
      · rw [if_neg e1] at h
        exact br_f e1 (xr_138 h8 h)
    · rw [if_neg h8] at h
      exact br_f (nI_nlt (b := 8) (by omega) (by omega)) h
  · rw [if_neg e] at h
    exact br_f e h
theorem xr_27 {post : Int32 → St2 → Prop} (hc : c ≤ 16) (hj : j < c) (hn : nr ≤ 8) (p1 : hp_pm c M x b1) (p2 : hp_pm c M y b2)
    (h : if M j &&& ((b1 ||| b2) ^^^ (-1)) = 0 then (if nr < 8 then post (nI nr) (nI n, 16, 32, ph, nI c, nI ne, nI (nr + 1), nI ns, kn, K, L, R, M, A, Z, E, upd r0 nr (hp_r1 x y), upd r1 nr (hp_r2 x y), upd rc nr (nI j), F) else post (-6) (nI n, 16, 32, ph, nI c, nI ne, nI nr, nI ns, kn, K, L, R, M, A, Z, E, r0, r1, rc, F)) else post (-8) (nI n, 16, 32, ph, nI c, nI ne, nI nr, nI ns, kn, K, L, R, M, A, Z, E, r0, r1, rc, F)) :
    wX_rule_27 post x y (nI j) (nI n) 16 32 ph (nI c) (nI ne) (nI nr) (nI ns) kn K L R M A Z E r0 r1 rc F := by
  have h69 : wX_rule_69 post x y (nI j) b1 (nI n) 16 32 ph (nI c) (nI ne) (nI nr) (nI ns) kn K L R M A Z E r0 r1 rc F := by
    rcases p2 with ⟨rfl, rfl⟩ | ⟨i, hi, rfl, rfl⟩
    · exact br_t rfl (xr_84 (by omega) hn h)
    · have hcl : (nI i).toNatClampNeg = i := nI_clamp (by omega)
      refine br_f (ha_ne1 (by omega)) ⟨vp_in_nI (by omega) (by decide), ?_⟩
      rw [hcl]
      exact xr_84 (by omega) hn h
  have h43 : wX_rule_43 post x y (nI j) (nI n) 16 32 ph (nI c) (nI ne) (nI nr) (nI ns) kn K L R M A Z E r0 r1 rc F := by
    unfold wX_rule_43
    refine xi_h1 hj (by omega) (br_f (by decide) ?_)
    rcases p1 with ⟨rfl, rfl⟩ | ⟨i, hi, rfl, rfl⟩
    · exact br_t rfl h69
    · have hcl : (nI i).toNatClampNeg = i := nI_clamp (by omega)
      refine br_f (ha_ne1 (by omega)) ⟨vp_in_nI (by omega) (by decide), ?_⟩
      rw [hcl]
      exact h69
  rcases p2 with ⟨rfl, _⟩ | ⟨i, hi, rfl, _⟩
  · exact br_t rfl h43
  · exact br_f (ha_ne1 (by omega)) (xi_h1 hi (by omega) (br_f (by decide) h43))
theorem hp_pmo (x : Int32) (M : Nat → Int32) {c : Nat} (hc : c ≤ 16) : (∃ b, hp_pm c M x b) ∨ (¬ x = -1 ∧ (x < 0 ∨ nI c ≤ x)) := by
  by_cases e : x = -1
  · exact Or.inl ⟨0, Or.inl ⟨e, rfl⟩⟩
  · rcases hp_ix x (c := c) (by omega) with ⟨j, hj, rfl⟩ | h
    · exact Or.inl ⟨M j, Or.inr ⟨j, hj, rfl, rfl⟩⟩
    · exact Or.inr ⟨e, h⟩
theorem hp_pm1 (h : hp_pm c M x b1) : x = -1 ∨ ∃ i, i < c ∧ x = nI i := h.elim (fun z => Or.inl z.1) (fun ⟨i, a, b, _⟩ => Or.inr ⟨i, a, b⟩)
end HU
