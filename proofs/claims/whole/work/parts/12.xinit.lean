/-! both constructors -/
theorem hp_cl (x : Int32) {lo hi : Nat} (h : lo ≤ hi) (hb : hi < 1000) : ∃ j, lo ≤ j ∧ j ≤ hi ∧ ∀ P : Int32 → Prop, P (nI j) → ((nI lo ≤ x → ((x ≤ nI hi → P x) ∧ (¬ x ≤ nI hi → P (nI hi)))) ∧ (¬ nI lo ≤ x → P (nI lo))) := by
  by_cases h1 : nI lo ≤ x
  · by_cases h2 : x ≤ nI hi
    · have h0 : ¬ x < 0 := fun z => by
        have := Int32.lt_of_le_of_lt h1 z
        exact nI_pos (by omega) this
      obtain ⟨j, hj, rfl⟩ := nI_of h0
      rw [nI_leI (by omega) hj] at h1
      rw [nI_leI hj (by omega)] at h2
      exact ⟨j, h1, h2, fun P hP => br_t (nI_le h1 hj) (br_t (nI_le h2 (by omega)) hP)⟩
    · exact ⟨hi, h, Nat.le_refl _, fun P hP => br_t h1 (br_f h2 hP)⟩
  · exact ⟨lo, Nat.le_refl _, h, fun P hP => br_f h1 hP⟩
def hp_neg (m : Nat) : Nat → Int32 := fun p => if p < m then -1 else 0
theorem hn_s (m : Nat) : upd (hp_neg m) m (-1) = hp_neg (m + 1) := by
  funext p
  by_cases e : p = m
  · subst e
    rw [pk_us]
    exact (if_pos (by omega)).symm
  · rw [pk_un e]
    by_cases h : p < m
    · exact (if_pos h).trans (if_pos (show p < m + 1 by omega)).symm
    · exact (if_neg h).trans (if_neg (show ¬ p < m + 1 by omega)).symm
theorem hn_0 : (fun _ => 0 : Nat → Int32) = hp_neg 0 := funext fun p => (if_neg (Nat.not_lt_zero p)).symm
theorem hn_lo {p : Nat} (h : p < 256) : hp_neg 256 p = -1 := if_pos h
theorem hn_hi {p : Nat} (h : 256 ≤ p) : hp_neg 256 p = 0 := if_neg (by omega)
section HXI
variable {fN fT fP fp fc fe fr fs fk : Int32} {K L R M A Z E r0 r1 rc F : Nat → Int32} {n : Nat} {post : SX → Prop}
theorem xi_i194 (h2 : 2 ≤ n) (h4 : n ≤ 4)
    (h : ∀ A M, hp_C n n (hp_k0 n) (hp_l0 n) (hp_r0 n) A → (∀ p, 256 ≤ p → A p = 0) → hp_M n (hp_k0 n) (hp_l0 n) (hp_r0 n) M → (∀ p, 16 ≤ p → M p = 0) → post (nI n, fT, fP, fp, nI n, fe, fr, fs, fk, hp_k0 n, hp_l0 n, hp_r0 n, M, A, Z, E, r0, r1, rc, F)) :
    ∃ f, wX_init_194 post f 0 (nI n) fT fP fp 0 fe fr fs fk (fun _ => 0) (fun _ => 0) (fun _ => 0) (fun _ => 0) (hp_neg 256) Z E r0 r1 rc F := by
  refine pk_loop (fun f i (s : (Nat → Int32) × (Nat → Int32)) => wX_init_194 post f (nI i) (nI n) fT fP fp (nI i) fe fr fs fk (hp_k0 i) (hp_l0 i) (hp_r0 i) (s.1) (s.2) Z E r0 r1 rc F)
    (fun i s => hp_C n i (hp_k0 i) (hp_l0 i) (hp_r0 i) s.2 ∧ (∀ p, 256 ≤ p → s.2 p = 0) ∧ hp_M i (hp_k0 i) (hp_l0 i) (hp_r0 i) s.1 ∧ (∀ p, 16 ≤ p → s.1 p = 0)) n 0 (fun _ => 0, hp_neg 256) (by omega) ⟨?_, ?_, ?_, ?_⟩ ?_ ?_
  · exact fun p hp => ⟨fun z => absurd z (Nat.not_lt_zero _), fun _ => hn_lo hp⟩
  · exact fun p hp => hn_hi hp
  · exact fun x hx => (if_pos (Or.inl (Nat.zero_le x))).symm
  · exact fun p hp => rfl
  · intro f s hs
    exact br_t (nI_le (Nat.le_refl _) (by omega)) (h s.2 s.1 hs.1 hs.2.1 hs.2.2.1 hs.2.2.2)
  · intro f i s hi hs nx
    refine br_f (nI_ge hi (by omega)) (xi_add (hw_0 h2 h4 i (by omega)) (by omega) (Or.inl ⟨hi, rfl, rfl, rfl⟩) hs.1 hs.2.1 hs.2.2.1 hs.2.2.2 ?_)
    intro A' M' g1 g2 g3 g4
    exact nm_r (nI_1 i) (nx (M', A') ⟨g1, g2, g3, g4⟩)
theorem xi_i161 (h : ∃ f, wX_init_194 post f 0 fN fT fP fp fc fe fr fs fk K L R M (hp_neg 256) (hp_neg 256) E r0 r1 rc F) : ∃ f, wX_init_161 post fN fT fP fp fc fe fr fs fk f 0 K L R M (fun _ => 0) (fun _ => 0) E r0 r1 rc F := by
  refine pk_loop (fun f i (s : Nat → Int32) => wX_init_161 post fN fT fP fp fc fe fr fs fk f (nI i) K L R M s s E r0 r1 rc F) (fun i s => s = hp_neg i) 256 0 (fun _ => 0) (by omega) hn_0 ?_ ?_
  · intro f s hs
    subst hs
    exact br_t (nI_le (a := 256) (b := 256) (by omega) (by decide)) h
  · intro f i s hi hs nx
    subst hs
    have hin : vp_in (nI i) 256 := vp_in_nI hi (by decide)
    have e : upd (hp_neg i) (nI i).toNatClampNeg (-1) = hp_neg (i + 1) := by
      rw [nI_clamp (by omega)]
      exact hn_s i
    exact br_f (nI_ge (b := 256) hi (by decide)) ⟨hin, nm_r e ⟨hin, nm_r e (nm_r (nI_1 i) (nx _ rfl))⟩⟩
end HXI
section HYI
variable {fN fT fP fc fe fr fs fp fk : Int32} {K L R Ym E r0 r1 rc F Yc Yk : Nat → Int32} {n : Nat} {post : SY → Prop}
theorem yi_i174 (h4 : n ≤ 4) (h : post (nI n, fT, fP, nI n, fe, fr, fs, 0, fk, hp_k0 n, hp_l0 n, hp_r0 n, Ym, E, r0, r1, rc, F, Yc, Yk)) : ∃ f, wY_init_174 post (nI n) fT fP fc fe fr fs fp fk f 0 (fun _ => 0) (fun _ => 0) (fun _ => 0) Ym E r0 r1 rc F Yc Yk := by
  refine pk_loop (fun f i (_ : Unit) => wY_init_174 post (nI n) fT fP fc fe fr fs fp fk f (nI i) (hp_k0 i) (hp_l0 i) (hp_r0 i) Ym E r0 r1 rc F Yc Yk) (fun _ _ => True) n 0 () (by omega) trivial ?_ ?_
  · intro f s _
    exact br_t (nI_le (Nat.le_refl _) (by omega)) h
  · intro f i s hi _ nx
    have hin : vp_in (nI i) 16 := vp_in_nI (by omega) (by decide)
    have ec : (nI i).toNatClampNeg = i := nI_clamp (by omega)
    refine br_f (nI_ge hi (by omega)) ⟨hin, nm_r (e' := hp_k0 (i + 1)) (by rw [ec]; rfl) ⟨hin, nm_r (e' := hp_l0 (i + 1)) (by rw [ec]; rfl) ⟨hin, nm_r (e' := hp_r0 (i + 1)) (by rw [ec]; rfl) (nm_r (nI_1 i) (nx () trivial))⟩⟩⟩
end HYI
theorem i_up {k : Nat} {u : SX} {v : SY} (h : i_Rel k u v) : i_Rel (k + 5) u v := h
theorem i_vc0 (k0 : Int32) (k1 : Int32) (k2 : Int32) : wpX_init (fun u => wpY_init (fun v => i_Rel 3 u v) k0 k1 k2) k0 k1 k2 := by
  obtain ⟨n, n1, n2, hn⟩ := hp_cl k0 (lo := 2) (hi := 4) (by omega) (by omega)
  obtain ⟨t, t1, t2, ht⟩ := hp_cl k1 (lo := 8) (hi := 16) (by omega) (by omega)
  obtain ⟨s, s1, s2, hs⟩ := hp_cl k2 (lo := 8) (hi := 32) (by omega) (by omega)
  unfold wpX_init
  refine hn (fun r_1 => wpX_clamped (fun r_2 => (wpX_clamped (fun r_3 => (∃ n161 : Nat, wX_init_161 _ r_1 r_2 r_3 0 0 0 0 0 0 n161 0 (fun _ => 0) (fun _ => 0) (fun _ => 0) (fun _ => 0) (fun _ => 0) (fun _ => 0) (fun _ => 0) (fun _ => 0) (fun _ => 0) (fun _ => 0) (fun _ => 0))) k2 8 32)) k1 8 16) ?_
  refine ht (fun r_2 => (wpX_clamped (fun r_3 => (∃ n161 : Nat, wX_init_161 _ (nI n) r_2 r_3 0 0 0 0 0 0 n161 0 (fun _ => 0) (fun _ => 0) (fun _ => 0) (fun _ => 0) (fun _ => 0) (fun _ => 0) (fun _ => 0) (fun _ => 0) (fun _ => 0) (fun _ => 0) (fun _ => 0))) k2 8 32)) ?_
  refine hs (fun r_3 => (∃ n161 : Nat, wX_init_161 _ (nI n) (nI t) r_3 0 0 0 0 0 0 n161 0 (fun _ => 0) (fun _ => 0) (fun _ => 0) (fun _ => 0) (fun _ => 0) (fun _ => 0) (fun _ => 0) (fun _ => 0) (fun _ => 0) (fun _ => 0) (fun _ => 0))) ?_
  refine xi_i161 (xi_i194 n1 n2 (fun A M c1 c2 c3 c4 => ?_))
  refine hn (fun z => wY_init_114 _ k1 k2 z 0 0 0 0 0 0 0 0 0 (fun _ => 0) (fun _ => 0) (fun _ => 0) (fun _ => 0) (fun _ => 0) (fun _ => 0) (fun _ => 0) (fun _ => 0) (fun _ => 0) (fun _ => 0) (fun _ => 0)) ?_
  refine ht (fun z => wY_init_141 _ k2 z (nI n) 0 0 0 0 0 0 0 0 (fun _ => 0) (fun _ => 0) (fun _ => 0) (fun _ => 0) (fun _ => 0) (fun _ => 0) (fun _ => 0) (fun _ => 0) (fun _ => 0) (fun _ => 0) (fun _ => 0)) ?_
  refine hs (fun z => ∃ n174 : Nat, wY_init_174 _ (nI n) (nI t) z 0 0 0 0 0 0 n174 0 (fun _ => 0) (fun _ => 0) (fun _ => 0) (fun _ => 0) (fun _ => 0) (fun _ => 0) (fun _ => 0) (fun _ => 0) (fun _ => 0) (fun _ => 0) (fun _ => 0)) ?_
  refine yi_i174 n2 ?_
  refine hj_mk (ne := 0) (nr := 0) (ns := 0) ⟨⟨hw_0 n1 n2 n (Nat.le_refl _), Nat.le_refl _, by omega, t2, s2, by omega, by omega, by omega⟩, ⟨c1, c2, c3, c4⟩, ⟨fun e he => absurd he (Nat.not_lt_zero _), fun e he => absurd he (Nat.not_lt_zero _), fun e he => absurd he (Nat.not_lt_zero _)⟩, ⟨fun _ _ => rfl, fun _ _ => rfl⟩, Or.inl ⟨rfl, rfl, rfl, fun g hg => hn_lo hg, fun g hg => hn_hi hg, fun _ _ => rfl⟩⟩
