/-! saturate -/
def hp_e0 (Z A E : Nat → Int32) : Nat → Nat → Int32
  | 0 => Z
  | e + 1 => upd (hp_e0 Z A E e) (hp_i A ((E e).toNatClampNeg * 16)) 0
section HQ
variable {Rk Z A E K L R r0 r1 rc : Nat → Int32} {n c i g ne nr : Nat} {D : Nat → Prop}
theorem hs_no (h : ∀ x, x < 256 → ¬ (Rk x = -1 ∧ D x)) (hD : ∀ g, D g → g < 256) : hp_u Rk i D = Rk := by
  funext x
  by_cases d : D x
  · exact hu_3 (fun z => h x (hD x d) ⟨z, d⟩)
  · exact hu_2 d
theorem hs_new (hi : i < 1000) (he : hp_k (hp_u Rk i D) 256 = hp_k Rk 256) : ∀ x, x < 256 → ¬ (Rk x = -1 ∧ D x) := by
  intro x hx z
  have := hk_e (m := 256) (Rk := Rk) (Rk' := hp_u Rk i D) (fun g _ => hu_m hi) he x hx z.1
  rw [hu_1 z.1 z.2] at this
  exact ha_ne1 (by omega) this
theorem he_x (W : hp_W n c K L R) (C : hp_C n c K L R A) {e : Nat} (hE : ∃ h, h < c ∧ E e = nI h) : ∃ h x, h < 16 ∧ E e = nI h ∧ x < 256 ∧ A (h * 16) = nI x ∧ A x = nI x ∧ hp_i A ((E e).toNatClampNeg * 16) = x := by
  obtain ⟨h, hh, eh⟩ := hE
  have w := W.2.2.1
  have w1 := W.1
  have e2 : (h * 16) % 16 = 0 := by omega
  obtain ⟨x, x1, x2, x3, x4⟩ := hc_p W C (t := h * 16) ⟨by omega, by rw [e2]; exact ⟨by omega, by omega⟩⟩
  exact ⟨h, x, by omega, eh, x1, x2, x3, by rw [eh, nI_clamp (by omega)]; exact x4⟩
theorem he_G (W : hp_W n c K L R) (C : hp_C n c K L R A) (hE : ∀ e, e < ne → ∃ h, h < c ∧ E e = nI h) (hz : ∀ g, g < 256 → Z g = -1) : ∀ e, e ≤ ne → hp_G A (hp_e0 Z A E e) 0 := by
  intro e
  induction e with
  | zero => exact fun _ g hg => Or.inl (hz g hg)
  | succ e ih =>
    intro he g hg
    obtain ⟨h, x, h1, h2, x1, x2, x3, x4⟩ := he_x W C (hE e (by omega))
    show upd (hp_e0 Z A E e) (hp_i A ((E e).toNatClampNeg * 16)) 0 g = -1 ∨ (A g = nI g ∧ ∃ j, j ≤ 0 ∧ upd (hp_e0 Z A E e) (hp_i A ((E e).toNatClampNeg * 16)) 0 g = nI j)
    rw [x4]
    by_cases eg : g = x
    · subst eg
      exact Or.inr ⟨x3, 0, Nat.le_refl _, pk_us⟩
    · rw [pk_un eg]
      exact ih (by omega) g hg
theorem hi_G (R0 : Nat → Int32) (h : hp_G A R0 0) : ∀ i, hp_G A (hp_it R0 (hp_D n nr K L R A r0 r1 rc) i) i := by
  intro i
  induction i with
  | zero => exact h
  | succ i ih => exact hg_s (fun g d => d.2.1) ih
theorem hk_00 (m : Nat) (h : ∀ g, g < m → Z g = -1) : hp_k Z m = 0 := by
  induction m with
  | zero => rfl
  | succ m ih =>
    show hp_k Z m + (if Z m = -1 then 0 else 1) = 0
    rw [ih (fun g hg => h g (by omega)), if_pos (h m (by omega))]
end HQ
section HXS
variable {fN fT fP fp fc fe fr fs fk : Int32} {K L R M A Z E r0 r1 rc F : Nat → Int32} {Rk : Nat → Int32} {n c i f nr ne : Nat}
theorem xl_55 {post : Int32 → SX → Prop} {R0 : Nat → Int32} (W : hp_W n c K L R) (C : hp_C n c K L R A) (hR : hp_R c nr r0 r1 rc) (h8 : nr ≤ 8) (hG : hp_G A R0 0) (hf : f ≤ 256)
    (fe1 : hp_k (hp_it R0 (hp_D n nr K L R A r0 r1 rc) (f + 1)) 256 = hp_k (hp_it R0 (hp_D n nr K L R A r0 r1 rc) f) 256)
    (fl : ∀ j, j < f → hp_k (hp_it R0 (hp_D n nr K L R A r0 r1 rc) j) 256 < hp_k (hp_it R0 (hp_D n nr K L R A r0 r1 rc) (j + 1)) 256)
    (h : post (nI (hp_k (hp_it R0 (hp_D n nr K L R A r0 r1 rc) (f + 1)) 256)) (nI n, fT, fP, fp, fc, fe, nI nr, fs, nI (hp_k (hp_it R0 (hp_D n nr K L R A r0 r1 rc) (f + 1)) 256), K, L, R, M, A, hp_it R0 (hp_D n nr K L R A r0 r1 rc) (f + 1), E, r0, r1, rc, F)) :
    ∀ d i, i + d = f → wX_saturate_55 post (d + 2) 1 (nI i) (nI n) fT fP fp fc fe (nI nr) fs (nI (hp_k (hp_it R0 (hp_D n nr K L R A r0 r1 rc) i) 256)) K L R M A (hp_it R0 (hp_D n nr K L R A r0 r1 rc) i) E r0 r1 rc F := by
  have rnd : ∀ (post : SX → Prop) i, i < 1000 → post (nI n, fT, fP, fp, fc, fe, nI nr, fs, nI (hp_k (hp_it R0 (hp_D n nr K L R A r0 r1 rc) (i + 1)) 256), K, L, R, M, A, hp_it R0 (hp_D n nr K L R A r0 r1 rc) (i + 1), E, r0, r1, rc, F) → wpX_applyRules post (nI n, fT, fP, fp, fc, fe, nI nr, fs, nI (hp_k (hp_u (hp_it R0 (hp_D n nr K L R A r0 r1 rc) i) i (hp_X n K L R A r0 r1 rc (hp_it R0 (hp_D n nr K L R A r0 r1 rc) i) i 256 256 0 0)) 256), K, L, R, M, A, hp_u (hp_it R0 (hp_D n nr K L R A r0 r1 rc) i) i (hp_X n K L R A r0 r1 rc (hp_it R0 (hp_D n nr K L R A r0 r1 rc) i) i 256 256 0 0), E, r0, r1, rc, F) (nI i) := fun post i hi hp => by
    refine xl_rules W C hR h8 (hi_G R0 hG i) hi ?_
    have e : hp_u (hp_it R0 (hp_D n nr K L R A r0 r1 rc) i) i (hp_X n K L R A r0 r1 rc (hp_it R0 (hp_D n nr K L R A r0 r1 rc) i) i 256 256 nr 0) = hp_it R0 (hp_D n nr K L R A r0 r1 rc) (i + 1) := hu_e (fun g => hx_D W C hR)
    rw [e]
    exact hp
  have bd : ∀ i, hp_k (hp_it R0 (hp_D n nr K L R A r0 r1 rc) i) 256 < 2 ^ 31 := fun i => Nat.lt_of_le_of_lt hk_le (by decide)
  intro d
  induction d with
  | zero =>
    intro i hi
    have e : i = f := by omega
    subst e
    refine br_f (by decide) (br_f (nI_nlt (b := i) (a := 256) hf (by omega)) (xl_comp W C (hi_G R0 hG i) (by omega) (xl_apart W C (hi_G R0 hG i) (by omega) (rnd _ i (by omega) ?_))))
    refine br_t (nI_le (by omega) (bd _)) (nm_r (nI_1 i) (br_t rfl h))
  | succ d ih =>
    intro i hi
    refine br_f (by decide) (br_f (nI_nlt (b := i) (a := 256) (by omega) (by omega)) (xl_comp W C (hi_G R0 hG i) (by omega) (xl_apart W C (hi_G R0 hG i) (by omega) (rnd _ i (by omega) ?_))))
    refine br_f (nI_ge (fl i (by omega)) (bd _)) (nm_r (nI_1 i) (ih (i + 1) (by omega)))
theorem xl_18 {post : Int32 → SX → Prop} (W : hp_W n c K L R) (C : hp_C n c K L R A) (hE : ∀ e, e < ne → ∃ h, h < c ∧ E e = nI h) (h8 : ne ≤ 8) (hz : ∀ g, g < 256 → Z g = -1)
    (h : ∃ f, wX_saturate_55 post f 1 0 fN fT fP fp fc (nI ne) fr fs (nI (hp_k (hp_e0 Z A E ne) 256)) K L R M A (hp_e0 Z A E ne) E r0 r1 rc F) :
    ∃ f, wX_saturate_18 post f 0 fN fT fP fp fc (nI ne) fr fs 0 K L R M A Z E r0 r1 rc F := by
  have z0 : nI (hp_k (hp_e0 Z A E 0) 256) = 0 := by
    rw [show hp_e0 Z A E 0 = Z from rfl, hk_00 256 hz]
    rfl
  have go : ∃ f, wX_saturate_18 post f (nI 0) fN fT fP fp fc (nI ne) fr fs (nI (hp_k (hp_e0 Z A E 0) 256)) K L R M A (hp_e0 Z A E 0) E r0 r1 rc F := by
    refine pk_loop (fun f e (_ : Unit) => wX_saturate_18 post f (nI e) fN fT fP fp fc (nI ne) fr fs (nI (hp_k (hp_e0 Z A E e) 256)) K L R M A (hp_e0 Z A E e) E r0 r1 rc F) (fun _ _ => True) ne 0 () (by omega) trivial ?_ ?_
    · intro f s _
      exact br_t (nI_le (Nat.le_refl _) (by omega)) h
    · intro f e s he _ nx
      have nx := nx () trivial
      obtain ⟨h0, x, h1, h2, x1, x2, x3, x4⟩ := he_x W C (hE e he)
      have hG := he_G (Z := Z) W C hE hz e (by omega)
      have hin : vp_in (nI x) 256 := vp_in_nI x1 (by decide)
      have hcl : (nI x).toNatClampNeg = x := nI_clamp (by omega)
      have e1 : hp_e0 Z A E (e + 1) = upd (hp_e0 Z A E e) x 0 := by
        show upd (hp_e0 Z A E e) (hp_i A ((E e).toNatClampNeg * 16)) 0 = _
        rw [x4]
      refine br_f (nI_ge he (by omega)) ⟨vp_in_nI (by omega) (by decide), ?_⟩
      rw [nI_clamp (n := e) (by omega), h2, ha_16, nI_clamp (n := h0 * 16) (by omega), x2]
      refine ⟨vp_in_nI (by omega) (by decide), hin, ?_⟩
      rw [hcl]
      by_cases d : hp_e0 Z A E e x = -1
      · have e2 : hp_k (hp_e0 Z A E (e + 1)) 256 = hp_k (hp_e0 Z A E e) 256 + 1 := by
          rw [e1]
          exact hk_u x1 d (by decide)
        exact br_t d ⟨hin, nm_r (e' := hp_e0 Z A E (e + 1)) e1.symm (nm_r (e' := nI (hp_k (hp_e0 Z A E (e + 1)) 256)) (by rw [e2, nI_1]) (nm_r (nI_1 e) nx))⟩
      · have e2 : hp_e0 Z A E (e + 1) = hp_e0 Z A E e := by
          rw [e1]
          funext y
          by_cases ey : y = x
          · subst ey
            rw [pk_us]
            rcases hG y x1 with a | ⟨_, j, b, e'⟩
            · exact absurd a d
            · have : j = 0 := by omega
              subst this
              exact e'.symm
          · exact pk_un ey
        rw [e2] at nx
        exact br_f d (nm_r (nI_1 e) nx)
  rw [z0] at go
  exact go
end HXS
section HYS
variable {fN fT fP fc fe fr fs fp fk : Int32} {K L R Ym E r0 r1 rc F Yc Yk : Nat → Int32} {A M Z Rk Zf : Nat → Int32} {n c i f nr ne : Nat} {post : Int32 → SY → Prop}
theorem yl_173 (hr : ∀ g, g < 256 → Zf g = -1 ∨ ∃ j, j < 1000 ∧ Zf g = nI j) (h : post (nI (hp_k Zf 256)) (fN, fT, fP, fc, fe, fr, fs, fp, nI (hp_k Zf 256), K, L, R, Ym, E, r0, r1, rc, F, Yc, Zf)) : ∃ f, wY_saturate_173 post fN fT fP fc fe fr fs fp K L R Ym E r0 r1 rc F Yc Zf f 0 0 := by
  refine pk_loop (fun f m (_ : Unit) => wY_saturate_173 post fN fT fP fc fe fr fs fp K L R Ym E r0 r1 rc F Yc Zf f (nI m) (nI (hp_k Zf m))) (fun _ _ => True) 256 0 () (by omega) trivial ?_ ?_
  · intro f s _
    exact br_t (nI_le (a := 256) (b := 256) (by omega) (by decide)) h
  · intro f m s hm _ nx
    have nx := nx () trivial
    refine br_f (nI_ge (b := 256) hm (by decide)) ⟨vp_in_nI hm (by decide), ?_⟩
    rw [nI_clamp (by omega)]
    rcases hr m hm with e | ⟨j, hj, e⟩
    · rw [show hp_k Zf (m + 1) = hp_k Zf m from congrArg (hp_k Zf m + ·) (if_pos e)] at nx
      exact br_t (by rw [e]; decide) (nm_r (nI_1 m) nx)
    · have ne : ¬ Zf m = -1 := by rw [e]; exact ha_ne1 (by omega)
      rw [show hp_k Zf (m + 1) = hp_k Zf m + 1 from congrArg (hp_k Zf m + ·) (if_neg ne)] at nx
      exact br_f (by rw [e]; exact nI_pos (by omega)) (nm_r (nI_1 _) (nm_r (nI_1 m) nx))
theorem yl_101 {J : Int32 → (Nat → Int32) → (Nat → Int32) → (Nat → Int32) → (Nat → Int32) → (Nat → Int32) → (Nat → Int32) → (Nat → Int32) → (Nat → Int32) → (Nat → Int32) → (Nat → Int32) → (Nat → Int32) → Prop}
    (W : hp_W n c K L R) (C : hp_C n c K L R A) (hR : hp_R c nr r0 r1 rc) (h8 : nr ≤ 8) (hG : hp_G A Rk i) (hi : i < 1000)
    (h0 : (∀ x, x < 256 → ¬ (Rk x = -1 ∧ hp_D n nr K L R A r0 r1 rc Rk i x)) → ∃ f, wY_saturate_173 post (nI n) fT fP fc fe (nI nr) fs fp K L R Ym E r0 r1 rc F A (hp_u Rk i (hp_D n nr K L R A r0 r1 rc Rk i)) f 0 0)
    (h1 : (∃ x, x < 256 ∧ Rk x = -1 ∧ hp_D n nr K L R A r0 r1 rc Rk i x) → J (nI (i + 1)) K L R Ym E r0 r1 rc F A (hp_u Rk i (hp_D n nr K L R A r0 r1 rc Rk i))) :
    ∃ f, wY_saturate_101 post J (nI i) (nI n) fT fP fc fe (nI nr) fs fp fk f 0 0 K L R Ym E r0 r1 rc F A Rk := by
  have z0 : hp_u Rk i (fun x => x < 0 ∧ hp_D n nr K L R A r0 r1 rc Rk i x) = Rk := hu_0 (fun g z => absurd z.1 (Nat.not_lt_zero g))
  have z1 : hp_u Rk i (fun x => x < 256 ∧ hp_D n nr K L R A r0 r1 rc Rk i x) = hp_u Rk i (hp_D n nr K L R A r0 r1 rc Rk i) := hu_e (fun g => ⟨fun z => z.2, fun z => ⟨z.1, z⟩⟩)
  have go : ∃ f, wY_saturate_101 post J (nI i) (nI n) fT fP fc fe (nI nr) fs fp fk f 0 (nI 0) K L R Ym E r0 r1 rc F A (hp_u Rk i (fun x => x < 0 ∧ hp_D n nr K L R A r0 r1 rc Rk i x)) := by
    refine pk_loop (fun f g (s : Int32) => wY_saturate_101 post J (nI i) (nI n) fT fP fc fe (nI nr) fs fp fk f s (nI g) K L R Ym E r0 r1 rc F A (hp_u Rk i (fun x => x < g ∧ hp_D n nr K L R A r0 r1 rc Rk i x)))
      (fun g s => (s = 0 ∧ ∀ x, x < g → ¬ (Rk x = -1 ∧ hp_D n nr K L R A r0 r1 rc Rk i x)) ∨ (s = 1 ∧ ∃ x, x < g ∧ Rk x = -1 ∧ hp_D n nr K L R A r0 r1 rc Rk i x)) 256 0 0 (by omega) (Or.inl ⟨rfl, fun q hq => absurd hq (Nat.not_lt_zero q)⟩) ?_ ?_
    · intro f s hs
      refine br_t (nI_le (a := 256) (b := 256) (by omega) (by decide)) ?_
      rw [z1]
      rcases hs with ⟨rfl, z⟩ | ⟨rfl, z⟩
      · exact br_t rfl (h0 z)
      · exact br_f (by decide) (nm_r (nI_1 i) (h1 z))
    · intro f g s hg hs nx
      have hin : vp_in (nI g) 256 := vp_in_nI hg (by decide)
      have hcl : (nI g).toNatClampNeg = g := nI_clamp (by omega)
      have n0 : ¬ (Rk g = -1 ∧ hp_D n nr K L R A r0 r1 rc Rk i g) → ∀ x, x = nI g + 1 → wY_saturate_101 post J (nI i) (nI n) fT fP fc fe (nI nr) fs fp fk f s x K L R Ym E r0 r1 rc F A (hp_u Rk i (fun x => x < g ∧ hp_D n nr K L R A r0 r1 rc Rk i x)) := fun z => by
        have e : hp_u Rk i (fun x => x < g + 1 ∧ hp_D n nr K L R A r0 r1 rc Rk i x) = hp_u Rk i (fun x => x < g ∧ hp_D n nr K L R A r0 r1 rc Rk i x) := by
          funext y
          by_cases ey : y = g
          · subst ey
            by_cases r : Rk y = -1
            · rw [hu_2 (fun q => z ⟨r, q.2⟩), hu_2 (fun q => z ⟨r, q.2⟩)]
            · rw [hu_3 r, hu_3 r]
          · by_cases r : Rk y = -1
            · by_cases q : y < g ∧ hp_D n nr K L R A r0 r1 rc Rk i y
              · rw [hu_1 r ⟨by omega, q.2⟩, hu_1 r q]
              · have q' : ¬ (y < g + 1 ∧ hp_D n nr K L R A r0 r1 rc Rk i y) := fun o => q ⟨by omega, o.2⟩
                rw [hu_2 (D := fun x => x < g + 1 ∧ hp_D n nr K L R A r0 r1 rc Rk i x) q', hu_2 (D := fun x => x < g ∧ hp_D n nr K L R A r0 r1 rc Rk i x) q]
            · rw [hu_3 r, hu_3 r]
        have nx := nx s ?_
        · rw [e] at nx
          exact nm_r (nI_1 g) nx
        · rcases hs with ⟨a, b⟩ | ⟨a, x, b, d⟩
          · exact Or.inl ⟨a, lt_s b z⟩
          · exact Or.inr ⟨a, x, by omega, d⟩
      refine br_f (nI_ge (b := 256) hg (by decide)) ⟨hin, ?_⟩
      rw [hcl]
      by_cases e : A g = nI g
      · refine br_t e ⟨hin, ?_⟩
        rw [hu_2 (g := g) (D := fun x => x < g ∧ hp_D n nr K L R A r0 r1 rc Rk i x) (fun z => Nat.lt_irrefl g z.1)]
        rcases hG g hg with r | ⟨_, j, hj, r⟩
        · refine br_f (by rw [r]; decide) (yl_der W C hR h8 hG hi hg e (fun d => br_f (by decide) ⟨hin, ?_⟩) (fun d => br_t rfl (n0 (fun z => d z.2))))
          have nx := nx 1 (Or.inr ⟨rfl, g, by omega, r, d⟩)
          have e2 : hp_u Rk i (fun x => x < g + 1 ∧ hp_D n nr K L R A r0 r1 rc Rk i x) = upd (hp_u Rk i (fun x => x < g ∧ hp_D n nr K L R A r0 r1 rc Rk i x)) g (nI i + 1) := by
            funext y
            by_cases ey : y = g
            · subst ey
              rw [pk_us, hu_1 r ⟨by omega, d⟩, nI_1]
            · rw [pk_un ey]
              by_cases r' : Rk y = -1
              · by_cases q : y < g ∧ hp_D n nr K L R A r0 r1 rc Rk i y
                · rw [hu_1 r' ⟨by omega, q.2⟩, hu_1 r' q]
                · have q' : ¬ (y < g + 1 ∧ hp_D n nr K L R A r0 r1 rc Rk i y) := fun o => q ⟨by omega, o.2⟩
                  rw [hu_2 (D := fun x => x < g + 1 ∧ hp_D n nr K L R A r0 r1 rc Rk i x) q', hu_2 (D := fun x => x < g ∧ hp_D n nr K L R A r0 r1 rc Rk i x) q]
              · rw [hu_3 r', hu_3 r']
          exact nm_r e2.symm (nm_r (nI_1 g) nx)
        · have nr1 : ¬ Rk g = -1 := by rw [r]; exact ha_ne1 (by omega)
          exact br_t (by rw [r]; exact nI_pos' (by omega)) (n0 (fun z => nr1 z.1))
      · exact br_f e (n0 (fun z => e z.2.2.1))
  rw [z0] at go
  exact go
theorem yl_90 {R0 : Nat → Int32} (W : hp_W n c K L R) (C : hp_C n c K L R A) (hR : hp_R c nr r0 r1 rc) (h8 : nr ≤ 8) (hG : hp_G A R0 0) (hf : f ≤ 256)
    (fe1 : hp_k (hp_it R0 (hp_D n nr K L R A r0 r1 rc) (f + 1)) 256 = hp_k (hp_it R0 (hp_D n nr K L R A r0 r1 rc) f) 256)
    (fl : ∀ j, j < f → hp_k (hp_it R0 (hp_D n nr K L R A r0 r1 rc) j) 256 < hp_k (hp_it R0 (hp_D n nr K L R A r0 r1 rc) (j + 1)) 256)
    (h : post (nI (hp_k (hp_it R0 (hp_D n nr K L R A r0 r1 rc) (f + 1)) 256)) (nI n, fT, fP, fc, fe, nI nr, fs, fp, nI (hp_k (hp_it R0 (hp_D n nr K L R A r0 r1 rc) (f + 1)) 256), K, L, R, Ym, E, r0, r1, rc, F, A, hp_it R0 (hp_D n nr K L R A r0 r1 rc) (f + 1))) :
    ∀ d i, i + d = f → wY_saturate_90 post (nI n) fT fP fc fe (nI nr) fs fp fk (d + 1) (nI i) K L R Ym E r0 r1 rc F A (hp_it R0 (hp_D n nr K L R A r0 r1 rc) i) := by
  have san : ∀ g, g < 256 → hp_it R0 (hp_D n nr K L R A r0 r1 rc) (f + 1) g = -1 ∨ ∃ j, j < 1000 ∧ hp_it R0 (hp_D n nr K L R A r0 r1 rc) (f + 1) g = nI j := fun g hg => by
    rcases hi_G (n := n) (nr := nr) (K := K) (L := L) (R := R) (r0 := r0) (r1 := r1) (rc := rc) R0 hG (f + 1) g hg with a | ⟨_, j, b, e⟩
    · exact Or.inl a
    · exact Or.inr ⟨j, by omega, e⟩
  intro d
  induction d with
  | zero =>
    intro i hi
    have e : i = f := by omega
    subst e
    refine br_f (nI_ge (b := 300) (by omega) (by decide)) (yl_101 W C hR h8 (hi_G R0 hG i) (by omega) (fun _ => yl_173 san h) (fun z => ?_))
    obtain ⟨x, x1, x2⟩ := z
    exact absurd x2 (hs_new (Rk := hp_it R0 (hp_D n nr K L R A r0 r1 rc) i) (D := hp_D n nr K L R A r0 r1 rc (hp_it R0 (hp_D n nr K L R A r0 r1 rc) i) i) (i := i) (by omega) fe1 x x1)
  | succ d ih =>
    intro i hi
    refine br_f (nI_ge (b := 300) (by omega) (by decide)) (yl_101 W C hR h8 (hi_G R0 hG i) (by omega) (fun z => ?_) (fun _ => ih (i + 1) (by omega)))
    have e : hp_it R0 (hp_D n nr K L R A r0 r1 rc) (i + 1) = hp_it R0 (hp_D n nr K L R A r0 r1 rc) i := hs_no z (fun g d => d.1)
    have := fl i (by omega)
    rw [e] at this
    omega
theorem yl_44 (W : hp_W n c K L R) (C : hp_C n c K L R A) (hE : ∀ e, e < ne → ∃ h, h < c ∧ E e = nI h) (h8 : ne ≤ 8)
    (h : ∃ f, wY_saturate_90 post fN fT fP fc (nI ne) fr fs fp fk f 0 K L R Ym E r0 r1 rc F A (hp_e0 Z A E ne)) : ∃ f, wY_saturate_44 post fN fT fP fc (nI ne) fr fs fp fk f 0 K L R Ym E r0 r1 rc F A Z := by
  refine pk_loop (fun f e (_ : Unit) => wY_saturate_44 post fN fT fP fc (nI ne) fr fs fp fk f (nI e) K L R Ym E r0 r1 rc F A (hp_e0 Z A E e)) (fun _ _ => True) ne 0 () (by omega) trivial ?_ ?_
  · intro f s _
    exact br_t (nI_le (Nat.le_refl _) (by omega)) h
  · intro f e s he _ nx
    have nx := nx () trivial
    obtain ⟨h0, x, h1, h2, x1, x2, x3, x4⟩ := he_x W C (hE e he)
    have e1 : hp_e0 Z A E (e + 1) = upd (hp_e0 Z A E e) (nI x).toNatClampNeg 0 := by
      show upd (hp_e0 Z A E e) (hp_i A ((E e).toNatClampNeg * 16)) 0 = _
      rw [x4, nI_clamp (by omega)]
    refine br_f (nI_ge he (by omega)) ⟨vp_in_nI (by omega) (by decide), ?_⟩
    rw [nI_clamp (n := e) (by omega), h2, ha_16, ha_a255 (by omega), nI_clamp (n := h0 * 16) (by omega), x2]
    exact ⟨vp_in_nI (by omega) (by decide), nm_e (br_f (nI_pos (by omega)) ⟨vp_in_nI x1 (by decide), nm_r e1.symm (nm_r (nI_1 e) nx)⟩)⟩
theorem yl_22 (hz : ∀ g, g < 256 → Z g = -1) (hzt : ∀ g, 256 ≤ g → Z g = 0) (hk : ∀ g, 256 ≤ g → Yk g = 0)
    (h : ∃ f, wY_saturate_44 post fN fT fP fc fe fr fs fp fk f 0 K L R Ym E r0 r1 rc F A Z) : ∃ f, wY_saturate_22 post fN fT fP fc fe fr fs fp fk f 0 K L R Ym E r0 r1 rc F A Yk := by
  refine pk_loop (fun f m s => wY_saturate_22 post fN fT fP fc fe fr fs fp fk f (nI m) K L R Ym E r0 r1 rc F A s) (fun m s => (∀ g, g < m → s g = -1) ∧ ∀ g, 256 ≤ g → s g = 0) 256 0 Yk (by omega) ⟨fun x hx => absurd hx (Nat.not_lt_zero x), hk⟩ ?_ ?_
  · intro f s hs
    have e : s = Z := funext fun x => by
      by_cases hx : x < 256
      · rw [hs.1 x hx, hz x hx]
      · rw [hs.2 x (by omega), hzt x (by omega)]
    subst e
    exact br_t (nI_le (a := 256) (b := 256) (by omega) (by decide)) h
  · intro f m s hm hs nx
    refine br_f (nI_ge (b := 256) hm (by decide)) ⟨vp_in_nI hm (by decide), nm_r (e' := upd s m (-1)) (by rw [nI_clamp (by omega)]) (nm_r (nI_1 m) (nx _ ⟨fun x hx => ?_, fun x hx => ?_⟩))⟩
    · by_cases e : x = m
      · subst e
        exact pk_us
      · rw [pk_un e]
        exact hs.1 x (by omega)
    · rw [pk_un (by omega)]
      exact hs.2 x hx
end HYS
theorem i_vc_saturate {k : Nat} {u : SX} {v : SY} (I : i_Rel k u v) (hk : k + 5 ≤ 2563) : wpX_saturate (fun r u' => wpY_saturate (fun r' v' => r' = r ∧ i_Rel (k + 5) u' v') v) u := by
  have I' := I
  obtain ⟨n, tm, pm, c, ne, nr, ns, ph, kn, K, L, R, M, A, Z, E, r0, r1, rc, F, Ym, Yc, Yk, rfl, rfl, J⟩ := I
  obtain ⟨b1, b2, b3, b4, b5, b6, b7, b8⟩ := hj_b J
  have W := J.1.1
  have C := J.2.1.1
  have hE := J.2.2.1.1
  have hR := J.2.2.1.2.1
  rcases J.2.2.2.2 with ⟨p, ns0, kn0, z1, z2, z3⟩ | ⟨p, _⟩
  · have q : ¬ ph = 1 := by rw [p]; decide
    obtain ⟨f, f1, f2, f3⟩ := hp_stop (hp_e0 Z A E ne) (hp_D n nr K L R A r0 r1 rc) (fun Rk i g d => d.1)
    have hG := he_G (Z := Z) W C hE z1 ne (Nat.le_refl _)
    subst kn0
    refine br_f q ?_
    refine xl_18 W C hE b6 z1 ⟨_, xl_55 W C hR b7 hG f1 f2 f3 ?_ f 0 (by omega)⟩
    refine br_f q (yj_ref J ?_)
    refine yl_22 z1 z2 z3 (yl_44 W C hE b6 ⟨_, yl_90 W C hR b7 hG f1 f2 f3 ?_ f 0 (by omega)⟩)
    refine ⟨rfl, hj_mk ⟨J.1, J.2.1, J.2.2.1, ⟨J.2.1.2.1, J.2.1.2.2.2⟩, Or.inr ⟨rfl, rfl, fun g hg => ?_⟩⟩⟩
    rcases hi_G (n := n) (nr := nr) (K := K) (L := L) (R := R) (r0 := r0) (r1 := r1) (rc := rc) _ hG (f + 1) g hg with a | ⟨_, j, b, e⟩
    · exact Or.inl a
    · exact Or.inr ⟨j, by omega, e⟩
  · exact br_t p (br_t p ⟨rfl, I'⟩)
