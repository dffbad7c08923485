/-! the law's search finds a step for each id whose lower ranks are there -/
section HSO
variable {n c ne nr ns : Nat} {ph kn : Int32} {K L R M A Z E r0 r1 rc F : Nat → Int32} {post : Int32 → Prop} {Lx : Nat} {xs : Nat → Int32} {J507 J517 : hq_T10} {q1 q3 q5 q12 q13 q15 q16 : Int32} {kc ks g : Nat}
theorem ls_one (J : hx_J n c ne nr ns ph kn K L R M A Z E r0 r1 rc F) (p1 : ph = 1) (hns : ns < 32) (hg : g < 256) (hA : A g = nI g) (J1 : hx_J n c ne nr (ns + 1) ph kn K L R M A Z E r0 r1 rc (upd F ns (nI g))) (h1 : J517 (nI (g + 1)) (nI n) 16 32 ph (nI c) (nI ne) (nI nr) (nI (ns + 1)) kn K L R M A Z E r0 r1 rc (upd F ns (nI g))) (e1 : q1 = nI n) {lev : Nat} (hlev : lev < 300) (hZ : Z g = nI lev) (pres : ∀ x, x < 256 → (∃ i, i < lev ∧ Z x = nI i) → ∃ j, j < ns ∧ F j = nI x) :
    wL_law_669 post Lx xs J507 J517 q1 q3 q5 q12 q13 q15 q16 (nI g) (nI (g / 16)) (nI (g % 4)) (nI (g / 4 % 4)) (nI ns) kc ks (nI n) 16 32 ph (nI c) (nI ne) (nI nr) (nI ns) kn K L R M A Z E r0 r1 rc F := by
  obtain ⟨b1, b2, b3, b4, b5, b6, b7⟩ := hj_b J
  have W := J.1.1
  have C := J.2.1.1
  have gv := hc_g C hg hA
  obtain ⟨_, hY, _, hF⟩ := J.2.2.2.resolve_left (fun z => absurd (p1.symm.trans z.1) (by decide))
  unfold wL_law_669
  refine lk_1 gv.1 b3 (ls_A J p1 hns hg hA J1 h1 (fun noE => ld_735 J hg hA (fun u v hu hv => ls_B J p1 hns hg hA J1 h1 hu hv (fun noB => ls_C J p1 hns hg hA J1 h1 hF (fun noC => ls_D J p1 hns hg hA J1 h1 e1 (fun noD => ?_))))))
  cases lev with
  | zero =>
    obtain ⟨e, he, ee⟩ := hY.2.2.1 g hg hZ
    exact noE e he ee
  | succ i =>
    have pr : ∀ x, x < 256 → hp_H Z i x → ∃ j, j < ns ∧ F j = nI x := fun x hx ⟨j, hj, e⟩ => pres x hx ⟨j, by omega, e⟩
    have ln : ∀ j, j < ns → j < (if ns = 0 then 1 else ns) := fun j hj => by
      rw [if_neg (by omega)]
      exact hj
    rcases (hY.2.2.2.1 i g hg (by omega) hZ).2.2 with ⟨_, na, hl, hr⟩ | ⟨t, t1, t2, t3, t4⟩ | ⟨r, s, hr, hs, hV, hc, m1, m2⟩
    · obtain ⟨l, x, _, _, _, x1, x2, x3, x4⟩ := hc_l W C gv na
      rw [x4] at hl
      obtain ⟨a, ha, ea⟩ := pr x x1 hl
      by_cases k5 : K (g / 16) = 5
      · exact noB a a ha ha ⟨na, ea.trans x2.symm, Or.inl k5⟩
      · obtain ⟨l', y, _, _, _, y1, y2, y3, y4⟩ := hc_r W C gv na k5
        have hr := hr.resolve_left k5
        rw [y4] at hr
        obtain ⟨b, hb, eb⟩ := pr y y1 hr
        exact noB a b ha hb ⟨na, ea.trans x2.symm, Or.inr (eb.trans y2.symm)⟩
    · obtain ⟨a, ha, ea⟩ := pr t t1 t3
      have tv := hc_g C t1 t2
      refine noC a ha ⟨t, t1, ea, ?_⟩
      rcases t4 with z | ⟨k3, z1, z2⟩ | ⟨k4, z1, k5, z2⟩
      · exact Or.inl z
      · obtain ⟨l', y, _, _, _, y1, y2, y3, y4⟩ := hc_r W C tv (hn_3 k3) (by rw [k3]; decide)
        rw [y4] at z2
        obtain ⟨b, hb, eb⟩ := pr y y1 z2
        exact Or.inr (Or.inl ⟨k3, z1, b, hb, eb.trans y2.symm⟩)
      · obtain ⟨l', w, _, _, _, w1, w2, w3, w4⟩ := hc_r W C tv (hn_4 k4) (by rw [k4]; decide)
        rw [w4] at k5 z2
        obtain ⟨l2, y, _, _, _, y1, y2, y3, y4⟩ := hc_l W C (hc_g C w1 w3) (hn_5 k5)
        rw [y4] at z2
        obtain ⟨b, hb, eb⟩ := pr y y1 z2
        exact Or.inr (Or.inr ⟨k4, z1, by rw [w4]; exact k5, b, hb, by rw [w4]; exact eb.trans y2.symm⟩)
    · obtain ⟨o1, o2, _⟩ := J.2.2.1.2.1 r hr
      have pm : ∀ x : Int32, (x = -1 ∨ ∃ h, h < c ∧ x = nI h) → hp_m A Z i x s → ∃ b, b < (if ns = 0 then 1 else ns) ∧ (x = -1 ∨ (b < ns ∧ F b = A (x.toNatClampNeg * 16 + s))) := fun x hx m => by
        rcases m with e | m
        · exact ⟨0, by split <;> omega, Or.inl e⟩
        · by_cases e : x = -1
          · exact ⟨0, by split <;> omega, Or.inl e⟩
          · obtain ⟨h, hh, rfl⟩ := hx.resolve_left e
            have e2 : (h * 16 + s) % 16 = s := by omega
            obtain ⟨y, y1, y2, _, y4⟩ := hc_p W C (t := h * 16 + s) ⟨by omega, by rw [e2]; exact hV⟩
            rw [nI_clamp (by omega)] at m ⊢
            rw [y4] at m
            obtain ⟨b, hb, eb⟩ := pr y y1 m
            exact ⟨b, ln b hb, Or.inr ⟨hb, eb.trans y2.symm⟩⟩
      obtain ⟨b, hb, pb⟩ := pm _ o1 m1
      obtain ⟨d, hd, pd⟩ := pm _ o2 m2
      exact noD r s b d hr hs hb hd ⟨hV, hc, pb, pd⟩
theorem ls_627 (J : hx_J n c ne nr ns ph kn K L R M A Z E r0 r1 rc F) (p1 : ph = 1) (hns : ns < 32) (hg : g < 256) (hA : A g = nI g) (J1 : hx_J n c ne nr (ns + 1) ph kn K L R M A Z E r0 r1 rc (upd F ns (nI g))) (h1 : J517 (nI (g + 1)) (nI n) 16 32 ph (nI c) (nI ne) (nI nr) (nI (ns + 1)) kn K L R M A Z E r0 r1 rc (upd F ns (nI g))) (e1 : q1 = nI n) {lev : Nat} (hlev : lev < 300) (hZ : Z g = nI lev) (pres : ∀ x, x < 256 → (∃ i, i < lev ∧ Z x = nI i) → ∃ j, j < ns ∧ F j = nI x) (np : ∀ j, j < ns → ¬ F j = nI g) :
    ∃ f, wL_law_627 post Lx xs J507 J517 q1 q3 q5 q12 q13 q15 q16 (nI g) (nI (g / 16)) (nI (g % 4)) (nI (g / 4 % 4)) (nI ns) kc ks (nI n) 16 32 ph (nI c) (nI ne) (nI nr) (nI ns) kn K L R M A Z E r0 r1 rc F f 0 0 := by
  obtain ⟨b1, b2, b3, b4, b5, b6, b7⟩ := hj_b J
  refine pk_loop (fun f j (_ : Unit) => wL_law_627 post Lx xs J507 J517 q1 q3 q5 q12 q13 q15 q16 (nI g) (nI (g / 16)) (nI (g % 4)) (nI (g / 4 % 4)) (nI ns) kc ks (nI n) 16 32 ph (nI c) (nI ne) (nI nr) (nI ns) kn K L R M A Z E r0 r1 rc F f 0 (nI j)) (fun _ _ => True) ns 0 () (by omega) trivial ?_ ?_
  · intro f s _
    exact br_t (nI_le (Nat.le_refl _) (by omega)) (br_t rfl (ls_one J p1 hns hg hA J1 h1 e1 hlev hZ pres))
  · intro f j s hj _ nx
    exact br_f (nI_ge hj (by omega)) (lf_1 hj b6 (br_f (np j hj) (nm_r (nI_1 j) (nx () trivial))))
end HSO
