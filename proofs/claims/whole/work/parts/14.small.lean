/-! the small methods -/
theorem hp_ix (x : Int32) {c : Nat} (hc : c < 1000) : (∃ j, j < c ∧ x = nI j) ∨ (x < 0 ∨ nI c ≤ x) := by
  rcases pk_ix x (n := c) (by omega) with h | h | h
  · exact Or.inr (Or.inl h)
  · exact Or.inr (Or.inr h)
  · exact Or.inl h
theorem hb_o {x : Int32} {n : Nat} {A B : Prop} (h : x < 0 ∨ nI n ≤ x) (a : A) : (x < 0 → A) ∧ (¬ x < 0 → ((nI n ≤ x → A) ∧ (¬ nI n ≤ x → B))) := by
  by_cases z : x < 0
  · exact br_t z a
  · exact br_f z (br_t (h.resolve_left z) a)
theorem hb_i {n j : Nat} {A B : Prop} (h : j < n) (hn : n < 1000) (b : B) : (nI j < 0 → A) ∧ (¬ nI j < 0 → ((nI n ≤ nI j → A) ∧ (¬ nI n ≤ nI j → B))) :=
  br_f (nI_pos (by omega)) (br_f (nI_ge h (by omega)) b)
theorem hb_o2 {x : Int32} {n : Nat} {A B : Prop} (h : x < 0 ∨ nI n ≤ x) (a : A) : (x < 0 → A) ∧ (¬ x < 0 → ((x < nI n → B) ∧ (¬ x < nI n → A))) := by
  by_cases z : x < 0
  · exact br_t z a
  · exact br_f z (br_f (Int32.not_lt.mpr (h.resolve_left z)) a)
theorem hb_i2 {n j : Nat} {A B : Prop} (h : j < n) (hn : n < 1000) (b : B) : (nI j < 0 → A) ∧ (¬ nI j < 0 → ((nI j < nI n → B) ∧ (¬ nI j < nI n → A))) :=
  br_f (nI_pos (by omega)) (br_t (nI_lt h (by omega)) b)
section HS
variable {fN fT fP fp fc fe fr fs fk : Int32} {K L R M A Z E r0 r1 rc F : Nat → Int32} {Ym Yc Yk : Nat → Int32} {post : Int32 → Prop} {n c j : Nat} {x : Int32}
theorem xi_h1 (h : j < c) (hc : c < 1000) (hp : post 1) : wpX_isHandle post (fN, fT, fP, fp, nI c, fe, fr, fs, fk, K, L, R, M, A, Z, E, r0, r1, rc, F) (nI j) := hb_i h hc hp
theorem xi_h0 (h : x < 0 ∨ nI c ≤ x) (hp : post 0) : wpX_isHandle post (fN, fT, fP, fp, nI c, fe, fr, fs, fk, K, L, R, M, A, Z, E, r0, r1, rc, F) x := hb_o h hp
theorem xi_n1 (h : j < n) (hc : n < 1000) (hp : post 1) : wpX_isName post (nI n, fT, fP, fp, fc, fe, fr, fs, fk, K, L, R, M, A, Z, E, r0, r1, rc, F) (nI j) := hb_i h hc hp
theorem xi_n0 (h : x < 0 ∨ nI n ≤ x) (hp : post 0) : wpX_isName post (nI n, fT, fP, fp, fc, fe, fr, fs, fk, K, L, R, M, A, Z, E, r0, r1, rc, F) x := hb_o h hp
theorem xi_s1 (h : j < n) (hc : n < 1000) (hp : post 1) : wpX_isStep post (fN, fT, fP, fp, fc, fe, fr, nI n, fk, K, L, R, M, A, Z, E, r0, r1, rc, F) (nI j) := hb_i h hc hp
theorem xi_s0 (h : x < 0 ∨ nI n ≤ x) (hp : post 0) : wpX_isStep post (fN, fT, fP, fp, fc, fe, fr, nI n, fk, K, L, R, M, A, Z, E, r0, r1, rc, F) x := hb_o h hp
theorem yi_h1 (h : j < c) (hc : c < 1000) (hp : post 1) : wpY_isHandle post (fN, fT, fP, nI c, fe, fr, fs, fp, fk, K, L, R, Ym, E, r0, r1, rc, F, Yc, Yk) (nI j) := hb_i h hc hp
theorem yi_h0 (h : x < 0 ∨ nI c ≤ x) (hp : post 0) : wpY_isHandle post (fN, fT, fP, nI c, fe, fr, fs, fp, fk, K, L, R, Ym, E, r0, r1, rc, F, Yc, Yk) x := hb_o h hp
theorem yi_s1 (h : j < n) (hc : n < 1000) (hp : post 1) : wpY_validStep post (fN, fT, fP, fc, fe, fr, nI n, fp, fk, K, L, R, Ym, E, r0, r1, rc, F, Yc, Yk) (nI j) := hb_i h hc hp
theorem yi_s0 (h : x < 0 ∨ nI n ≤ x) (hp : post 0) : wpY_validStep post (fN, fT, fP, fc, fe, fr, nI n, fp, fk, K, L, R, Ym, E, r0, r1, rc, F, Yc, Yk) x := hb_o h hp
end HS
section HJ
variable {n tm pm c ne nr ns : Nat} {ph kn : Int32} {K L R M A Z E r0 r1 rc F Ym Yc Yk : Nat → Int32}
theorem hj_ref (J : hp_J n tm pm c ne nr ns ph kn K L R M A Z E r0 r1 rc F Ym Yc Yk) : hp_J n tm pm c ne nr ns ph kn K L R M A Z E r0 r1 rc F M A Yk := ⟨J.1, J.2.1, J.2.2.1, ⟨J.2.1.2.1, J.2.1.2.2.2⟩, J.2.2.2.2⟩
theorem yj_ref {post : SY → Prop} (J : hp_J n tm pm c ne nr ns ph kn K L R M A Z E r0 r1 rc F Ym Yc Yk) {q : Int32} (h : post (nI n, nI tm, nI pm, nI c, nI ne, nI nr, nI ns, q, kn, K, L, R, M, E, r0, r1, rc, F, A, Yk)) : wpY_refresh post (nI n, nI tm, nI pm, nI c, nI ne, nI nr, nI ns, q, kn, K, L, R, Ym, E, r0, r1, rc, F, Yc, Yk) :=
  yi_ref J.1.1 J.2.1.1 J.2.1.2.1 J.2.1.2.2.1 J.2.1.2.2.2 J.2.2.2.1.1 J.2.2.2.1.2 h
theorem hj_b (J : hp_J n tm pm c ne nr ns ph kn K L R M A Z E r0 r1 rc F Ym Yc Yk) : n ≤ 4 ∧ n ≤ c ∧ c ≤ tm ∧ tm ≤ 16 ∧ pm ≤ 32 ∧ ne ≤ 8 ∧ nr ≤ 8 ∧ ns ≤ pm := ⟨J.1.1.2.1, J.1.2.1, J.1.2.2.1, J.1.2.2.2.1, J.1.2.2.2.2.1, J.1.2.2.2.2.2.1, J.1.2.2.2.2.2.2.1, J.1.2.2.2.2.2.2.2⟩
theorem hj_ph (J : hp_J n tm pm c ne nr ns ph kn K L R M A Z E r0 r1 rc F Ym Yc Yk) : ph = 0 ∨ ph = 1 := J.2.2.2.2.elim (fun z => Or.inl z.1) (fun z => Or.inr z.1)
end HJ
theorem i_vc_kindOf {k : Nat} {u : SX} {v : SY} (I : i_Rel k u v) (hk : k + 5 ≤ 2563) (v1 : Int32) : wpX_kindOf (fun r => wpY_kindOf (fun r' => r' = r ∧ i_Rel (k + 5) u v) v v1) u v1 := by
  have I' := I
  obtain ⟨n, tm, pm, c, ne, nr, ns, ph, kn, K, L, R, M, A, Z, E, r0, r1, rc, F, Ym, Yc, Yk, rfl, rfl, J⟩ := I
  obtain ⟨b1, b2, b3, b4, b5, b6, b7, b8⟩ := hj_b J
  unfold wpX_kindOf
  rcases hp_ix v1 (c := c) (by omega) with ⟨j, hj, rfl⟩ | h
  · have hin : vp_in (nI j) 16 := vp_in_nI (by omega) (by decide)
    refine xi_h1 hj (by omega) (br_f (by decide) ⟨hin, ?_⟩)
    unfold wpY_kindOf
    exact yi_h1 hj (by omega) (br_f (by decide) ⟨hin, rfl, I'⟩)
  · refine xi_h0 h (br_t rfl ?_)
    unfold wpY_kindOf
    exact yi_h0 h (br_t rfl ⟨rfl, I'⟩)
theorem i_vc_stepFact {k : Nat} {u : SX} {v : SY} (I : i_Rel k u v) (hk : k + 5 ≤ 2563) (v1 : Int32) : wpX_stepFact (fun r => wpY_stepFact (fun r' => r' = r ∧ i_Rel (k + 5) u v) v v1) u v1 := by
  have I' := I
  obtain ⟨n, tm, pm, c, ne, nr, ns, ph, kn, K, L, R, M, A, Z, E, r0, r1, rc, F, Ym, Yc, Yk, rfl, rfl, J⟩ := I
  obtain ⟨b1, b2, b3, b4, b5, b6, b7, b8⟩ := hj_b J
  unfold wpX_stepFact
  rcases hp_ix v1 (c := ns) (by omega) with ⟨j, hj, rfl⟩ | h
  · have hin : vp_in (nI j) 32 := vp_in_nI (by omega) (by decide)
    refine xi_s1 hj (by omega) (br_f (by decide) ⟨hin, ?_⟩)
    unfold wpY_stepFact
    exact yi_s1 hj (by omega) (br_f (by decide) ⟨hin, rfl, I'⟩)
  · refine xi_s0 h (br_t rfl ?_)
    unfold wpY_stepFact
    exact yi_s0 h (br_t rfl ⟨rfl, I'⟩)
theorem i_vc_child {k : Nat} {u : SX} {v : SY} (I : i_Rel k u v) (hk : k + 5 ≤ 2563) (v1 : Int32) (v2 : Int32) : wpX_child (fun r => wpY_child (fun r' => r' = r ∧ i_Rel (k + 5) u v) v v1 v2) u v1 v2 := by
  have I' := I
  obtain ⟨n, tm, pm, c, ne, nr, ns, ph, kn, K, L, R, M, A, Z, E, r0, r1, rc, F, Ym, Yc, Yk, rfl, rfl, J⟩ := I
  obtain ⟨b1, b2, b3, b4, b5, b6, b7, b8⟩ := hj_b J
  unfold wpX_child
  rcases hp_ix v1 (c := c) (by omega) with ⟨j, hj, rfl⟩ | h
  · have hin : vp_in (nI j) 16 := vp_in_nI (by omega) (by decide)
    by_cases h0 : v2 = 0
    · refine xi_h1 hj (by omega) (br_f (by decide) (br_t h0 (br_t h0 ⟨hin, ?_⟩)))
      unfold wpY_child
      exact yi_h1 hj (by omega) (br_f (by decide) (br_t h0 (br_t h0 ⟨hin, rfl, I'⟩)))
    · by_cases h1 : v2 = 1
      · refine xi_h1 hj (by omega) (br_f (by decide) (br_f h0 (br_t h1 (br_f h0 ⟨hin, ?_⟩))))
        unfold wpY_child
        exact yi_h1 hj (by omega) (br_f (by decide) (br_f h0 (br_t h1 (br_f h0 ⟨hin, rfl, I'⟩))))
      · refine xi_h1 hj (by omega) (br_f (by decide) (br_f h0 (br_f h1 ?_)))
        unfold wpY_child
        exact yi_h1 hj (by omega) (br_f (by decide) (br_f h0 (br_f h1 ⟨rfl, I'⟩)))
  · refine xi_h0 h (br_t rfl ?_)
    unfold wpY_child
    exact yi_h0 h (br_t rfl ⟨rfl, I'⟩)
theorem i_vc_entry {k : Nat} {u : SX} {v : SY} (I : i_Rel k u v) (hk : k + 5 ≤ 2563) (v1 : Int32) : wpX_entry (fun r => wpY_entry (fun r' => r' = r ∧ i_Rel (k + 5) u v) v v1) u v1 := by
  have I' := I
  obtain ⟨n, tm, pm, c, ne, nr, ns, ph, kn, K, L, R, M, A, Z, E, r0, r1, rc, F, Ym, Yc, Yk, rfl, rfl, J⟩ := I
  obtain ⟨b1, b2, b3, b4, b5, b6, b7, b8⟩ := hj_b J
  rcases hp_ix v1 (c := ne) (by omega) with ⟨j, hj, rfl⟩ | h
  · have hin : vp_in (nI j) 8 := vp_in_nI (by omega) (by decide)
    exact hb_i hj (by omega) ⟨hin, hb_i hj (by omega) ⟨hin, rfl, I'⟩⟩
  · exact hb_o h (hb_o h ⟨rfl, I'⟩)
theorem i_vc_ruleTerm {k : Nat} {u : SX} {v : SY} (I : i_Rel k u v) (hk : k + 5 ≤ 2563) (v1 : Int32) (v2 : Int32) : wpX_ruleTerm (fun r => wpY_ruleTerm (fun r' => r' = r ∧ i_Rel (k + 5) u v) v v1 v2) u v1 v2 := by
  have I' := I
  obtain ⟨n, tm, pm, c, ne, nr, ns, ph, kn, K, L, R, M, A, Z, E, r0, r1, rc, F, Ym, Yc, Yk, rfl, rfl, J⟩ := I
  obtain ⟨b1, b2, b3, b4, b5, b6, b7, b8⟩ := hj_b J
  rcases hp_ix v1 (c := nr) (by omega) with ⟨j, hj, rfl⟩ | h
  · have hin : vp_in (nI j) 8 := vp_in_nI (by omega) (by decide)
    rcases hp_ix v2 (c := 3) (by omega) with ⟨i, hi, rfl⟩ | h2
    · have i0 : ¬ nI i < 0 := nI_pos (by omega)
      have i1 : ¬ (2 : Int32) < nI i := nI_nlt (b := i) (a := 2) (by omega) (by omega)
      have i2 : nI i ≤ (2 : Int32) := nI_le (a := i) (b := 2) (by omega) (by omega)
      refine hb_i2 hj (by omega) (br_f i0 (br_f i1 ?_))
      obtain rfl | rfl | rfl : i = 0 ∨ i = 1 ∨ i = 2 := by omega
      · exact br_t rfl ⟨hin, hb_i2 hj (by omega) (br_f i0 (br_t i2 (br_t rfl ⟨hin, rfl, I'⟩)))⟩
      · exact br_f (by decide) (br_t rfl ⟨hin, hb_i2 hj (by omega) (br_f i0 (br_t i2 (br_f (by decide) (br_t rfl ⟨hin, rfl, I'⟩))))⟩)
      · exact br_f (by decide) (br_f (by decide) (br_t rfl ⟨hin, hb_i2 hj (by omega) (br_f i0 (br_t i2 (br_f (by decide) (br_f (by decide) ⟨hin, rfl, I'⟩))))⟩))
    · by_cases z : v2 < 0
      · exact hb_i2 hj (by omega) (br_t z (hb_i2 hj (by omega) (br_t z ⟨rfl, I'⟩)))
      · have z3 : nI 3 ≤ v2 := h2.resolve_left z
        have z2 : (2 : Int32) < v2 := Int32.lt_of_lt_of_le (nI_lt (a := 2) (b := 3) (by omega) (by omega)) z3
        exact hb_i2 hj (by omega) (br_f z (br_t z2 (hb_i2 hj (by omega) (br_f z (br_f (Int32.not_le.mpr z2) ⟨rfl, I'⟩)))))
  · exact hb_o2 h (hb_o2 h ⟨rfl, I'⟩)
