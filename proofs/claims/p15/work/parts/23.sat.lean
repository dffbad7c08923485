/-! saturate -/
def hp_e0 (Z A E : Nat → Int32) : Nat → Nat → Int32
  | 0 => Z
  | e + 1 => upd (hp_e0 Z A E e) (hp_i A ((E e).toNatClampNeg * 16)) 0
section HQ
variable {Rk Z A E K L R r0 r1 rc : Nat → Int32} {n c i g ne nr : Nat} {D : Nat → Prop}
theorem hs_no (h : ∀ x, x < 256 → ¬ (Rk x = -1 ∧ D x)) (hD : ∀ g, D g → g < 256) : hp_u Rk i D = Rk := by
  funext x
  by_cases d : D x
  · exact hu_3 (fun z => h x (hD x d) ⟨z, d⟩)
  · exact hu_2 d
theorem hs_new (hi : i < 1000) (he : hp_k (hp_u Rk i D) 256 = hp_k Rk 256) : ∀ x, x < 256 → ¬ (Rk x = -1 ∧ D x) := by
  intro x hx z
  have := hk_e (m := 256) (Rk := Rk) (Rk' := hp_u Rk i D) (fun g _ => hu_m hi) he x hx z.1
  rw [hu_1 z.1 z.2] at this
  exact ha_ne1 (by omega) this
theorem he_x (W : hp_W n c K L R) (C : hp_C n c K L R A) {e : Nat} (hE : ∃ h, h < c ∧ E e = nI h) : ∃ h x, h < 16 ∧ E e = nI h ∧ x < 256 ∧ A (h * 16) = nI x ∧ A x = nI x ∧ hp_i A ((E e).toNatClampNeg * 16) = x := by
  obtain ⟨h, hh, eh⟩ := hE
  have w := W.2.2.1
  have w1 := W.1
  have e2 : (h * 16) % 16 = 0 := by omega
  obtain ⟨x, x1, x2, x3, x4⟩ := hc_p W C (t := h * 16) ⟨by omega, by rw [e2]; exact ⟨by omega, by omega⟩⟩
  exact ⟨h, x, by omega, eh, x1, x2, x3, by rw [eh, nI_clamp (by omega)]; exact x4⟩
theorem he_G (W : hp_W n c K L R) (C : hp_C n c K L R A) (hE : ∀ e, e < ne → ∃ h, h < c ∧ E e = nI h) (hz : ∀ g, g < 256 → Z g = -1) : ∀ e, e ≤ ne → hp_G A (hp_e0 Z A E e) 0 := by
  intro e
  induction e with
  | zero => exact fun _ g hg => Or.inl (hz g hg)
  | succ e ih =>
    intro he g hg
    obtain ⟨h, x, h1, h2, x1, x2, x3, x4⟩ := he_x W C (hE e (by omega))
    show upd (hp_e0 Z A E e) (hp_i A ((E e).toNatClampNeg * 16)) 0 g = -1 ∨ (A g = nI g ∧ ∃ j, j ≤ 0 ∧ upd (hp_e0 Z A E e) (hp_i A ((E e).toNatClampNeg * 16)) 0 g = nI j)
    rw [x4]
    by_cases eg : g = x
    · subst eg
      exact Or.inr ⟨x3, 0, Nat.le_refl _, pk_us⟩
    · rw [pk_un eg]
      exact ih (by omega) g hg
theorem hi_G (R0 : Nat → Int32) (h : hp_G A R0 0) : ∀ i, hp_G A (hp_it R0 (hp_D n nr K L R A r0 r1 rc) i) i := by
  intro i
  induction i with
  | zero => exact h
  | succ i ih => exact hg_s (fun g d => d.2.1) ih
theorem hk_00 (m : Nat) (h : ∀ g, g < m → Z g = -1) : hp_k Z m = 0 := by
  induction m with
  | zero => rfl
  | succ m ih =>
    show hp_k Z m + (if Z m = -1 then 0 else 1) = 0
    rw [ih (fun g hg => h g (by omega)), if_pos (h m (by omega))]
end HQ
section HXS
variable {fN fT fP fp fc fe fr fs fk : Int32} {K L R M A Z E r0 r1 rc F : Nat → Int32} {Rk : Nat → Int32} {n c i f nr ne : Nat}
theorem xl_55 {post : Int32 → St2 → Prop} {R0 : Nat → Int32} (W : hp_W n c K L R) (C : hp_C n c K L R A) (hR : hp_R c nr r0 r1 rc) (h8 : nr ≤ 8) (hG : hp_G A R0 0) (hf : f ≤ 256)
    (fe1 : hp_k (hp_it R0 (hp_D n nr K L R A r0 r1 rc) (f + 1)) 256 = hp_k (hp_it R0 (hp_D n nr K L R A r0 r1 rc) f) 256)
    (fl : ∀ j, j < f → hp_k (hp_it R0 (hp_D n nr K L R A r0 r1 rc) j) 256 < hp_k (hp_it R0 (hp_D n nr K L R A r0 r1 rc) (j + 1)) 256)
    (h : post (nI (hp_k (hp_it R0 (hp_D n nr K L R A r0 r1 rc) (f + 1)) 256)) (nI n, fT, fP, fp, fc, fe, nI nr, fs, nI (hp_k (hp_it R0 (hp_D n nr K L R A r0 r1 rc) (f + 1)) 256), K, L, R, M, A, hp_it R0 (hp_D n nr K L R A r0 r1 rc) (f + 1), E, r0, r1, rc, F)) :
    ∀ d i, i + d = f → wX_saturate_55 post (d + 2) 1 (nI i) (nI n) fT fP fp fc fe (nI nr) fs (nI (hp_k (hp_it R0 (hp_D n nr K L R A r0 r1 rc) i) 256)) K L R M A (hp_it R0 (hp_D n nr K L R A r0 r1 rc) i) E r0 r1 rc F := by
  have rnd : ∀ (post : St2 → Prop) i, i < 1000 → post (nI n, fT, fP, fp, fc, fe, nI nr, fs, nI (hp_k (hp_it R0 (hp_D n nr K L R A r0 r1 rc) (i + 1)) 256), K, L, R, M, A, hp_it R0 (hp_D n nr K L R A r0 r1 rc) (i + 1), E, r0, r1, rc, F) → wpX_applyRules post (nI n, fT, fP, fp, fc, fe, nI nr, fs, nI (hp_k (hp_u (hp_it R0 (hp_D n nr K L R A r0 r1 rc) i) i (hp_X n K L R A r0 r1 rc (hp_it R0 (hp_D n nr K L R A r0 r1 rc) i) i 256 256 0 0)) 256), K, L, R, M, A, hp_u (hp_it R0 (hp_D n nr K L R A r0 r1 rc) i) i (hp_X n K L R A r0 r1 rc (hp_it R0 (hp_D n nr K L R A r0 r1 rc) i) i 256 256 0 0), E, r0, r1, rc, F) (nI i) := fun post i hi hp => by
    refine xl_rules W C hR h8 (hi_G R0 hG i) hi ?_
    have e : hp_u (hp_it R0 (hp_D n nr K L R A r0 r1 rc) i) i (hp_X n K L R A r0 r1 rc (hp_it R0 (hp_D n nr K L R A r0 r1 rc) i) i 256 256 nr 0) = hp_it R0 (hp_D n nr K L R A r0 r1 rc) (i + 1) := hu_e (fun g => hx_D W C hR)
    rw [e]
    exact hp
  have bd : ∀ i, hp_k (hp_it R0 (hp_D n nr K L R A r0 r1 rc) i) 256 < 2 ^ 31 := fun i => Nat.lt_of_le_of_lt hk_le (by decide)
  intro d
  induction d with
  | zero =>
    intro i hi
    have e : i = f := by omega
    subst e
    refine br_f (by decide) (br_f (nI_nlt (b := i) (a := 256) hf (by omega)) (xl_comp W C (hi_G R0 hG i) (by omega) (xl_apart W C (hi_G R0 hG i) (by omega) (rnd _ i (by omega) ?_))))
    refine br_t (nI_le (by omega) (bd _)) (nm_r (nI_1 i) (br_t rfl h))
  | succ d ih =>
    intro i hi
    refine br_f (by decide) (br_f (nI_nlt (b := i) (a := 256) (by omega) (by omega)) (xl_comp W C (hi_G R0 hG i) (by omega) (xl_apart W C (hi_G R0 hG i) (by omega) (rnd _ i (by omega) ?_))))
    refine br_f (nI_ge (fl i (by omega)) (bd _)) (nm_r (nI_1 i) (ih (i + 1) (by omega)))
theorem xl_18 {post : Int32 → St2 → Prop} (W : hp_W n c K L R) (C : hp_C n c K L R A) (hE : ∀ e, e < ne → ∃ h, h < c ∧ E e = nI h) (h8 : ne ≤ 8) (hz : ∀ g, g < 256 → Z g = -1)
    (h : ∃ f, wX_saturate_55 post f 1 0 fN fT fP fp fc (nI ne) fr fs (nI (hp_k (hp_e0 Z A E ne) 256)) K L R M A (hp_e0 Z A E ne) E r0 r1 rc F) :
    ∃ f, wX_saturate_18 post f 0 fN fT fP fp fc (nI ne) fr fs 0 K L R M A Z E r0 r1 rc F := by
  have z0 : nI (hp_k (hp_e0 Z A E 0) 256) = 0 := by
    rw [show hp_e0 Z A E 0 = Z from rfl, hk_00 256 hz]
    rfl
  have go : ∃ f, wX_saturate_18 post f (nI 0) fN fT fP fp fc (nI ne) fr fs (nI (hp_k (hp_e0 Z A E 0) 256)) K L R M A (hp_e0 Z A E 0) E r0 r1 rc F := by
    refine pk_loop (fun f e (_ : Unit) => wX_saturate_18 post f (nI e) fN fT fP fp fc (nI ne) fr fs (nI (hp_k (hp_e0 Z A E e) 256)) K L R M A (hp_e0 Z A E e) E r0 r1 rc F) (fun _ _ => True) ne 0 () (by omega) trivial ?_ ?_
    · intro f s _
      exact br_t (nI_le (Nat.le_refl _) (by omega)) h
    · intro f e s he _ nx
      have nx := nx () trivial
      obtain ⟨h0, x, h1, h2, x1, x2, x3, x4⟩ := he_x W C (hE e he)
      have hG := he_G (Z := Z) W C hE hz e (by omega)
      have hin : vp_in (nI x) 256 := vp_in_nI x1 (by decide)
      have hcl : (nI x).toNatClampNeg = x := nI_clamp (by omega)
      have e1 : hp_e0 Z A E (e + 1) = upd (hp_e0 Z A E e) x 0 := by
        show upd (hp_e0 Z A E e) (hp_i A ((E e).toNatClampNeg * 16)) 0 = _
        rw [x4]
      refine br_f (nI_ge he (by omega)) ⟨vp_in_nI (by omega) (by decide), ?_⟩
      rw [nI_clamp (n := e) (by omega), h2, ha_16, nI_clamp (n := h0 * 16) (by omega), x2]
      refine ⟨vp_in_nI (by omega) (by decide), hin, ?_⟩
      rw [hcl]
      by_cases d : hp_e0 Z A E e x = -1
      · have e2 : hp_k (hp_e0 Z A E (e + 1)) 256 = hp_k (hp_e0 Z A E e) 256 + 1 := by
          rw [e1]
          exact hk_u x1 d (by decide)
        exact br_t d ⟨hin, nm_r (e' := hp_e0 Z A E (e + 1)) e1.symm (nm_r (e' := nI (hp_k (hp_e0 Z A E (e + 1)) 256)) (by rw [e2, nI_1]) (nm_r (nI_1 e) nx))⟩
      · have e2 : hp_e0 Z A E (e + 1) = hp_e0 Z A E e := by
          rw [e1]
          funext y
          by_cases ey : y = x
          · subst ey
            rw [pk_us]
            rcases hG y x1 with a | ⟨_, j, b, e'⟩
            · exact absurd a d
            · have : j = 0 := by omega
              subst this
              exact e'.symm
          · exact pk_un ey
        rw [e2] at nx
        exact br_f d (nm_r (nI_1 e) nx)
  rw [z0] at go
  exact go
end HXS
section HYS
end HYS
