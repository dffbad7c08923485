/-! the small methods -/
theorem hp_ix (x : Int32) {c : Nat} (hc : c < 1000) : (∃ j, j < c ∧ x = nI j) ∨ (x < 0 ∨ nI c ≤ x) := by
  rcases pk_ix x (n := c) (by omega) with h | h | h
  · exact Or.inr (Or.inl h)
  · exact Or.inr (Or.inr h)
  · exact Or.inl h
theorem hb_o {x : Int32} {n : Nat} {A B : Prop} (h : x < 0 ∨ nI n ≤ x) (a : A) : (x < 0 → A) ∧ (¬ x < 0 → ((nI n ≤ x → A) ∧ (¬ nI n ≤ x → B))) := by
  by_cases z : x < 0
  · exact br_t z a
  · exact br_f z (br_t (h.resolve_left z) a)
theorem hb_i {n j : Nat} {A B : Prop} (h : j < n) (hn : n < 1000) (b : B) : (nI j < 0 → A) ∧ (¬ nI j < 0 → ((nI n ≤ nI j → A) ∧ (¬ nI n ≤ nI j → B))) :=
  br_f (nI_pos (by omega)) (br_f (nI_ge h (by omega)) b)
theorem hb_o2 {x : Int32} {n : Nat} {A B : Prop} (h : x < 0 ∨ nI n ≤ x) (a : A) : (x < 0 → A) ∧ (¬ x < 0 → ((x < nI n → B) ∧ (¬ x < nI n → A))) := by
  by_cases z : x < 0
  · exact br_t z a
  · exact br_f z (br_f (Int32.not_lt.mpr (h.resolve_left z)) a)
theorem hb_i2 {n j : Nat} {A B : Prop} (h : j < n) (hn : n < 1000) (b : B) : (nI j < 0 → A) ∧ (¬ nI j < 0 → ((nI j < nI n → B) ∧ (¬ nI j < nI n → A))) :=
  br_f (nI_pos (by omega)) (br_t (nI_lt h (by omega)) b)
section HS
variable {fN fT fP fp fc fe fr fs fk : Int32} {K L R M A Z E r0 r1 rc F : Nat → Int32} {Ym Yc Yk : Nat → Int32} {post : Int32 → Prop} {n c j : Nat} {x : Int32}
theorem xi_h1 (h : j < c) (hc : c < 1000) (hp : post 1) : wpX_isHandle post (fN, fT, fP, fp, nI c, fe, fr, fs, fk, K, L, R, M, A, Z, E, r0, r1, rc, F) (nI j) := hb_i h hc hp
theorem xi_h0 (h : x < 0 ∨ nI c ≤ x) (hp : post 0) : wpX_isHandle post (fN, fT, fP, fp, nI c, fe, fr, fs, fk, K, L, R, M, A, Z, E, r0, r1, rc, F) x := hb_o h hp
theorem xi_n1 (h : j < n) (hc : n < 1000) (hp : post 1) : wpX_isName post (nI n, fT, fP, fp, fc, fe, fr, fs, fk, K, L, R, M, A, Z, E, r0, r1, rc, F) (nI j) := hb_i h hc hp
theorem xi_n0 (h : x < 0 ∨ nI n ≤ x) (hp : post 0) : wpX_isName post (nI n, fT, fP, fp, fc, fe, fr, fs, fk, K, L, R, M, A, Z, E, r0, r1, rc, F) x := hb_o h hp
theorem xi_s1 (h : j < n) (hc : n < 1000) (hp : post 1) : wpX_isStep post (fN, fT, fP, fp, fc, fe, fr, nI n, fk, K, L, R, M, A, Z, E, r0, r1, rc, F) (nI j) := hb_i h hc hp
theorem xi_s0 (h : x < 0 ∨ nI n ≤ x) (hp : post 0) : wpX_isStep post (fN, fT, fP, fp, fc, fe, fr, nI n, fk, K, L, R, M, A, Z, E, r0, r1, rc, F) x := hb_o h hp
end HS
section HJ
variable {n tm pm c ne nr ns : Nat} {ph kn : Int32} {K L R M A Z E r0 r1 rc F Ym Yc Yk : Nat → Int32}
end HJ
