/-! the law's search: by a rule -/
section HSD
variable {n c ne nr ns : Nat} {ph kn : Int32} {K L R M A Z E r0 r1 rc F : Nat → Int32} {post : Int32 → Prop} {Lx : Nat} {xs : Nat → Int32} {J507 J517 : hq_T10} {q1 q3 q5 q12 q13 q15 q16 : Int32} {kc ks g : Nat}
def hp_md (n ns : Nat) (A F r0 r1 rc : Nat → Int32) (g r z b d : Nat) : Prop := hp_V n z ∧ A ((rc r).toNatClampNeg * 16 + z) = nI g ∧
  (r0 r = -1 ∨ (b < ns ∧ F b = A ((r0 r).toNatClampNeg * 16 + z))) ∧ (r1 r = -1 ∨ (d < ns ∧ F d = A ((r1 r).toNatClampNeg * 16 + z)))
theorem ls_9 (J : hx_J n c ne nr ns ph kn K L R M A Z E r0 r1 rc F) (p1 : ph = 1) (hns : ns < 32) {r z b d : Nat} (hr : r < nr) (hz : z < 16) (m : hp_md n ns A F r0 r1 rc g r z b d) (hb : b < 1000) (hd : d < 1000) (hg : g < 256) {P : Int32 → St2 → Prop} (hP : P (nI ns) (nI n, 16, 32, ph, nI c, nI ne, nI nr, nI (ns + 1), kn, K, L, R, M, A, Z, E, r0, r1, rc, upd F ns (nI g))) : wpX_step P (nI n, 16, 32, ph, nI c, nI ne, nI nr, nI ns, kn, K, L, R, M, A, Z, E, r0, r1, rc, F) 9 (nI r) (nI b) (nI d) := by
  obtain ⟨b1, b2, b3, b4, b5, b6, b7⟩ := hj_b J
  have W := J.1.1
  have C := J.2.1.1
  obtain ⟨o1, o2, hc, hcc, ec⟩ := J.2.2.1.2.1 r hr
  have cb : (nI b).toNatClampNeg = b := nI_clamp (by omega)
  have cd : (nI d).toNatClampNeg = d := nI_clamp (by omega)
  have ecc : (rc r).toNatClampNeg = hc := by rw [ec, nI_clamp (by omega)]
  have ne : ¬ nI g = -1 := ha_ne1 (by omega)
  have m1 : hp_b A (r0 r) z (F b) := m.2.2.1.imp id (fun y => y.2.symm)
  have m2 : hp_b A (r1 r) z (F d) := m.2.2.2.imp id (fun y => y.2.symm)
  obtain ⟨q, hq⟩ := hz_ex n A (r0 r) (r1 r) (rc r) (F b) (F d)
  have e : q = nI g := by
    rcases hq with ⟨s, s1, s2, ⟨s3, s4⟩, _, s5⟩ | ⟨_, y⟩
    · have v := J.2.2.1.2.2 r hr
      rw [ecc] at v
      have := hv_rule W C J.2.1.2.2.1 o1 o2 hcc v s1 hz s2 m.1 s3 s4 m1 m2
      rw [s5, ecc, this, ← ecc]
      exact m.2.1
    · exact absurd ⟨m1, m2⟩ (y z hz m.1)
  subst e
  have hq' : hp_z n A (r0 r) (r1 r) (rc r) (F (nI b).toNatClampNeg) (F (nI d).toNatClampNeg) (nI g) := by
    rw [cb, cd]
    exact hq
  refine st_9 J p1 hns hr (fun e _ z => ?_) hq' (fun z => absurd z ne) (fun _ _ _ => hP)
  have bad : ∀ x, x < ns → ¬ (nI x < 0 ∨ nI ns ≤ nI x) := fun x hx y => y.elim (nI_pos (by omega)) (nI_ge hx (by omega))
  rcases z with ⟨y1, y2⟩ | ⟨y1, y2⟩
  · exact absurd y2 (bad b (m.2.2.1.resolve_left y1).1)
  · exact absurd y2 (bad d (m.2.2.2.resolve_left y1).1)
theorem ls_1326 (J : hx_J n c ne nr ns ph kn K L R M A Z E r0 r1 rc F) (p1 : ph = 1) (hns : ns < 32) (hg : g < 256) {J1169 J1189 : hq_T11} {r z lim : Nat} {x33 x34 : Int32} (hr : r < nr) (hz : z < 16) (hV : hp_V n z) (hc : A ((rc r).toNatClampNeg * 16 + z) = nI g)
    (h33 : ¬ r0 r = -1 → x33 = A ((r0 r).toNatClampNeg * 16 + z)) (h34 : ¬ r1 r = -1 → x34 = A ((r1 r).toNatClampNeg * 16 + z)) (hl : lim = if ns = 0 then 1 else ns)
    (nt : J1189 (nI ns) (nI (z + 1)) (nI n) 16 32 ph (nI c) (nI ne) (nI nr) (nI (ns + 1)) kn K L R M A Z E r0 r1 rc (upd F ns (nI g))) (nf : (∀ b d, b < lim → d < lim → ¬ hp_md n ns A F r0 r1 rc g r z b d) → J1189 (-99) (nI (z + 1)) (nI n) 16 32 ph (nI c) (nI ne) (nI nr) (nI ns) kn K L R M A Z E r0 r1 rc F) :
    ∃ f, wL_law_1326 post Lx xs J507 J517 J1169 J1189 q1 q3 q5 q12 q13 q15 q16 (nI g) (nI ns) (nI r) (nI z) (r0 r) (r1 r) x33 x34 (nI lim) kc ks f (-99) 0 (nI n) 16 32 ph (nI c) (nI ne) (nI nr) (nI ns) kn K L R M A Z E r0 r1 rc F := by
  obtain ⟨b1, b2, b3, b4, b5, b6, b7⟩ := hj_b J
  have W := J.1.1
  have C := J.2.1.1
  have w := W.2.2.1
  obtain ⟨o1, o2, _⟩ := J.2.2.1.2.1 r hr
  have lb : 1 ≤ lim ∧ lim ≤ 32 ∧ ns ≤ lim := by
    rw [hl]
    split <;> omega
  -- a premise's id is a number
  have pos : ∀ x : Int32, (x = -1 ∨ ∃ h, h < c ∧ x = nI h) → ¬ x = -1 → ∃ y, y < 256 ∧ A (x.toNatClampNeg * 16 + z) = nI y := fun x hx e => by
    obtain ⟨h, hh, rfl⟩ := hx.resolve_left e
    have e2 : (h * 16 + z) % 16 = z := by omega
    obtain ⟨y, y1, y2, _, _⟩ := hc_p W C (t := h * 16 + z) ⟨by omega, by rw [e2]; exact hV⟩
    rw [nI_clamp (by omega)]
    exact ⟨y, y1, y2⟩
  -- a look at a step, present or not
  have look : ∀ (x : Int32) (v : Int32), (x = -1 ∨ ∃ h, h < c ∧ x = nI h) → ¬ x = -1 → v = A (x.toNatClampNeg * 16 + z) → ∀ b, b < lim → ∀ P Q : Prop, (b < ns → F b = A (x.toNatClampNeg * 16 + z) → P) → (¬ (b < ns ∧ F b = A (x.toNatClampNeg * 16 + z)) → Q) → wpX_stepFact (fun y => (y = v → P) ∧ (¬ y = v → Q)) (nI n, 16, 32, ph, nI c, nI ne, nI nr, nI ns, kn, K, L, R, M, A, Z, E, r0, r1, rc, F) (nI b) := fun x v hx e ev b hb P Q hP hQ => by
    by_cases h : b < ns
    · refine lf_1 h b6 ?_
      by_cases e2 : F b = v
      · exact br_t e2 (hP h (e2.trans ev))
      · exact br_f e2 (hQ (fun z => e2 (z.2.trans ev.symm)))
    · refine lf_0 (Or.inr (nI_le (by omega) (by omega))) ?_
      obtain ⟨y, y1, y2⟩ := pos x hx e
      refine br_f ?_ (hQ (fun z => h z.1))
      rw [ev, y2]
      intro e3
      have := nI_pos (n := y) (by omega)
      rw [← e3] at this
      exact this (by decide)
  refine pk_loop (σ := Bool) (fun f b bb => hq_b bb (wL_law_1326 post Lx xs J507 J517 J1169 J1189 q1 q3 q5 q12 q13 q15 q16 (nI g) (nI ns) (nI r) (nI z) (r0 r) (r1 r) x33 x34 (nI lim) kc ks f (nI ns) (nI b) (nI n) 16 32 ph (nI c) (nI ne) (nI nr) (nI (ns + 1)) kn K L R M A Z E r0 r1 rc (upd F ns (nI g))) (wL_law_1326 post Lx xs J507 J517 J1169 J1189 q1 q3 q5 q12 q13 q15 q16 (nI g) (nI ns) (nI r) (nI z) (r0 r) (r1 r) x33 x34 (nI lim) kc ks f (-99) (nI b) (nI n) 16 32 ph (nI c) (nI ne) (nI nr) (nI ns) kn K L R M A Z E r0 r1 rc F))
    (fun b bb => hq_b bb True (∀ x, x < b → ∀ d, d < lim → ¬ hp_md n ns A F r0 r1 rc g r z x d)) lim 0 false (by omega) (fun q hq => absurd hq (Nat.not_lt_zero q)) ?_ ?_
  · intro f bb hbb
    cases bb with
    | true => exact br_t (nI_le (Nat.le_refl _) (by omega)) (nm_r (nI_1 z) nt)
    | false => exact br_t (nI_le (Nat.le_refl _) (by omega)) (nm_r (nI_1 z) (nf (fun b d hb hd => hbb b hb d hd)))
  · intro f b bb hb hbb nx
    cases bb with
    | true => exact br_f (nI_ge hb (by omega)) (br_f (ha_99 (by omega)) (nm_r (nI_1 z) nt))
    | false =>
      have mt := nx true trivial
      refine br_f (nI_ge hb (by omega)) (br_t rfl ?_)
      refine pk_loop (σ := Bool) (fun f' d bb => hq_b bb (wL_law_1343 post Lx xs J507 J517 J1169 J1189 (wL_law_1326 post Lx xs J507 J517 J1169 J1189 q1 q3 q5 q12 q13 q15 q16 (nI g) (nI ns) (nI r) (nI z) (r0 r) (r1 r) x33 x34 (nI lim) kc ks f) q1 q3 q5 q12 q13 q15 q16 (nI g) (nI ns) (nI r) (nI z) (r0 r) (r1 r) x33 x34 (nI lim) (nI b) kc ks f' (nI ns) (nI d) (nI n) 16 32 ph (nI c) (nI ne) (nI nr) (nI (ns + 1)) kn K L R M A Z E r0 r1 rc (upd F ns (nI g))) (wL_law_1343 post Lx xs J507 J517 J1169 J1189 (wL_law_1326 post Lx xs J507 J517 J1169 J1189 q1 q3 q5 q12 q13 q15 q16 (nI g) (nI ns) (nI r) (nI z) (r0 r) (r1 r) x33 x34 (nI lim) kc ks f) q1 q3 q5 q12 q13 q15 q16 (nI g) (nI ns) (nI r) (nI z) (r0 r) (r1 r) x33 x34 (nI lim) (nI b) kc ks f' (-99) (nI d) (nI n) 16 32 ph (nI c) (nI ne) (nI nr) (nI ns) kn K L R M A Z E r0 r1 rc F))
        (fun d bb => hq_b bb True (∀ x, x < d → ¬ hp_md n ns A F r0 r1 rc g r z b x)) lim 0 false (by omega) (fun q hq => absurd hq (Nat.not_lt_zero q)) ?_ ?_
      · intro f' bb hb2
        cases bb with
        | true => exact br_t (nI_le (Nat.le_refl _) (by omega)) (nm_r (nI_1 b) mt)
        | false => exact br_t (nI_le (Nat.le_refl _) (by omega)) (nm_r (nI_1 b) (nx false (lt_s hbb hb2)))
      · intro f' d bb hd hb2 ny
        cases bb with
        | true => exact br_f (nI_ge hd (by omega)) (br_f (ha_99 (by omega)) (nm_r (nI_1 b) mt))
        | false =>
          have nn : ¬ hp_md n ns A F r0 r1 rc g r z b d → ∀ x, x = nI d + 1 → wL_law_1343 post Lx xs J507 J517 J1169 J1189 (wL_law_1326 post Lx xs J507 J517 J1169 J1189 q1 q3 q5 q12 q13 q15 q16 (nI g) (nI ns) (nI r) (nI z) (r0 r) (r1 r) x33 x34 (nI lim) kc ks f) q1 q3 q5 q12 q13 q15 q16 (nI g) (nI ns) (nI r) (nI z) (r0 r) (r1 r) x33 x34 (nI lim) (nI b) kc ks f' (-99) x (nI n) 16 32 ph (nI c) (nI ne) (nI nr) (nI ns) kn K L R M A Z E r0 r1 rc F := fun q => nm_r (nI_1 d) (ny false (lt_s hb2 q))
          have go : hp_md n ns A F r0 r1 rc g r z b d → wL_law_1389 post Lx xs J507 J517 J1169 J1189 (wL_law_1326 post Lx xs J507 J517 J1169 J1189 q1 q3 q5 q12 q13 q15 q16 (nI g) (nI ns) (nI r) (nI z) (r0 r) (r1 r) x33 x34 (nI lim) kc ks f) (wL_law_1343 post Lx xs J507 J517 J1169 J1189 (wL_law_1326 post Lx xs J507 J517 J1169 J1189 q1 q3 q5 q12 q13 q15 q16 (nI g) (nI ns) (nI r) (nI z) (r0 r) (r1 r) x33 x34 (nI lim) kc ks f) q1 q3 q5 q12 q13 q15 q16 (nI g) (nI ns) (nI r) (nI z) (r0 r) (r1 r) x33 x34 (nI lim) (nI b) kc ks f') q1 q3 q5 q12 q13 q15 q16 (nI g) (nI ns) (nI r) (nI z) (r0 r) (r1 r) x33 x34 (nI lim) (nI b) (nI d) kc ks (nI n) 16 32 ph (nI c) (nI ne) (nI nr) (nI ns) kn K L R M A Z E r0 r1 rc F := fun m => by
            unfold wL_law_1389
            exact ls_9 J p1 hns hr hz m (by omega) (by omega) hg (nm_r (nI_1 d) (ny true trivial))
          have neg : ∀ x : Int32, (x = -1 ∨ ∃ h, h < c ∧ x = nI h) → ¬ x = -1 → ¬ x < 0 := fun x hx e => by
            obtain ⟨h, hh, rfl⟩ := hx.resolve_left e
            exact nI_pos (by omega)
          have h73 : (r0 r = -1 ∨ (b < ns ∧ F b = A ((r0 r).toNatClampNeg * 16 + z))) → wL_law_1373 post Lx xs J507 J517 J1169 J1189 (wL_law_1326 post Lx xs J507 J517 J1169 J1189 q1 q3 q5 q12 q13 q15 q16 (nI g) (nI ns) (nI r) (nI z) (r0 r) (r1 r) x33 x34 (nI lim) kc ks f) (wL_law_1343 post Lx xs J507 J517 J1169 J1189 (wL_law_1326 post Lx xs J507 J517 J1169 J1189 q1 q3 q5 q12 q13 q15 q16 (nI g) (nI ns) (nI r) (nI z) (r0 r) (r1 r) x33 x34 (nI lim) kc ks f) q1 q3 q5 q12 q13 q15 q16 (nI g) (nI ns) (nI r) (nI z) (r0 r) (r1 r) x33 x34 (nI lim) (nI b) kc ks f') q1 q3 q5 q12 q13 q15 q16 (nI g) (nI ns) (-99) (nI r) (nI z) (r0 r) (r1 r) x33 x34 (nI lim) (nI b) (nI d) kc ks (nI n) 16 32 ph (nI c) (nI ne) (nI nr) (nI ns) kn K L R M A Z E r0 r1 rc F := fun m1 => by
            by_cases e : r1 r = -1
            · exact br_t (by rw [e]; decide) (go ⟨hV, hc, m1, Or.inl e⟩)
            · exact br_f (neg _ o2 e) (look (r1 r) x34 o2 e (h34 e) d hd _ _ (fun a1 a2 => go ⟨hV, hc, m1, Or.inr ⟨a1, a2⟩⟩) (fun a => nn (fun m => a (m.2.2.2.resolve_left e))))
          refine br_f (nI_ge hd (by omega)) (br_t rfl ?_)
          by_cases e : r0 r = -1
          · exact br_t (by rw [e]; decide) (h73 (Or.inl e))
          · exact br_f (neg _ o1 e) (look (r0 r) x33 o1 e (h33 e) b hb _ _ (fun a1 a2 => h73 (Or.inr ⟨a1, a2⟩)) (fun a => nn (fun m => a (m.2.2.1.resolve_left e))))
theorem ls_D (J : hx_J n c ne nr ns ph kn K L R M A Z E r0 r1 rc F) (p1 : ph = 1) (hns : ns < 32) (hg : g < 256) (hA : A g = nI g) (J1 : hx_J n c ne nr (ns + 1) ph kn K L R M A Z E r0 r1 rc (upd F ns (nI g))) (h1 : J517 (nI (g + 1)) (nI n) 16 32 ph (nI c) (nI ne) (nI nr) (nI (ns + 1)) kn K L R M A Z E r0 r1 rc (upd F ns (nI g))) (e1 : q1 = nI n)
    (h0 : (∀ r z b d, r < nr → z < 16 → b < (if ns = 0 then 1 else ns) → d < (if ns = 0 then 1 else ns) → ¬ hp_md n ns A F r0 r1 rc g r z b d) → False) : ∃ f, wL_law_1169 post Lx xs J507 J517 q1 q3 q5 q12 q13 q15 q16 (nI g) (nI ns) kc ks f (-99) 0 (nI n) 16 32 ph (nI c) (nI ne) (nI nr) (nI ns) kn K L R M A Z E r0 r1 rc F := by
  obtain ⟨b1, b2, b3, b4, b5, b6, b7⟩ := hj_b J
  have W := J.1.1
  have C := J.2.1.1
  have w := W.2.2.1
  subst e1
  refine pk_loop (σ := Bool) (fun f r b => hq_b b (wL_law_1169 post Lx xs J507 J517 (nI n) q3 q5 q12 q13 q15 q16 (nI g) (nI ns) kc ks f (nI ns) (nI r) (nI n) 16 32 ph (nI c) (nI ne) (nI nr) (nI (ns + 1)) kn K L R M A Z E r0 r1 rc (upd F ns (nI g))) (wL_law_1169 post Lx xs J507 J517 (nI n) q3 q5 q12 q13 q15 q16 (nI g) (nI ns) kc ks f (-99) (nI r) (nI n) 16 32 ph (nI c) (nI ne) (nI nr) (nI ns) kn K L R M A Z E r0 r1 rc F))
    (fun r b => hq_b b True (∀ x, x < r → ∀ z, z < 16 → ∀ b d, b < (if ns = 0 then 1 else ns) → d < (if ns = 0 then 1 else ns) → ¬ hp_md n ns A F r0 r1 rc g x z b d)) nr 0 false (by omega) (fun q hq => absurd hq (Nat.not_lt_zero q)) ?_ ?_
  · intro f b hb
    cases b with
    | true => exact ld_1169 (Nat.lt_succ_self ns) (by omega) pk_us h1 f _
    | false => exact (h0 (fun r z b d hr hz hb' hd => hb r hr z hz b d hb' hd)).elim
  · intro f r b hr hb nx
    cases b with
    | true => exact ld_1169 (Nat.lt_succ_self ns) (by omega) pk_us h1 f _
    | false =>
      have nt := nx true trivial
      obtain ⟨o1, o2, hc, hcc, ec⟩ := J.2.2.1.2.1 r hr
      have ecc : (rc r).toNatClampNeg = hc := by rw [ec, nI_clamp (by omega)]
      show wL_law_1169 post Lx xs J507 J517 (nI n) q3 q5 q12 q13 q15 q16 (nI g) (nI ns) kc ks (f + 1) (-99) (nI r) (nI n) 16 32 ph (nI c) (nI ne) (nI nr) (nI ns) kn K L R M A Z E r0 r1 rc F
      unfold wL_law_1169
      refine lc_2 (br_f (nI_ge hr (by omega)) (br_t rfl ?_))
      refine pk_loop (σ := Bool) (fun f' z b => hq_b b (wL_law_1189 post Lx xs J507 J517 (wL_law_1169 post Lx xs J507 J517 (nI n) q3 q5 q12 q13 q15 q16 (nI g) (nI ns) kc ks f) (nI n) q3 q5 q12 q13 q15 q16 (nI g) (nI ns) (nI r) kc ks f' (nI ns) (nI z) (nI n) 16 32 ph (nI c) (nI ne) (nI nr) (nI (ns + 1)) kn K L R M A Z E r0 r1 rc (upd F ns (nI g))) (wL_law_1189 post Lx xs J507 J517 (wL_law_1169 post Lx xs J507 J517 (nI n) q3 q5 q12 q13 q15 q16 (nI g) (nI ns) kc ks f) (nI n) q3 q5 q12 q13 q15 q16 (nI g) (nI ns) (nI r) kc ks f' (-99) (nI z) (nI n) 16 32 ph (nI c) (nI ne) (nI nr) (nI ns) kn K L R M A Z E r0 r1 rc F))
        (fun z b => hq_b b True (∀ x, x < z → ∀ b d, b < (if ns = 0 then 1 else ns) → d < (if ns = 0 then 1 else ns) → ¬ hp_md n ns A F r0 r1 rc g r x b d)) 16 0 false (by omega) (fun q hq => absurd hq (Nat.not_lt_zero q)) ?_ ?_
      · intro f' b hb2
        cases b with
        | true => exact br_t (nI_le (a := 16) (b := 16) (by omega) (by decide)) (nm_r (nI_1 r) nt)
        | false => exact br_t (nI_le (a := 16) (b := 16) (by omega) (by decide)) (nm_r (nI_1 r) (nx false (lt_s hb hb2)))
      · intro f' z b hz hb2 ny
        cases b with
        | true => exact br_f (nI_ge (b := 16) hz (by decide)) (br_f (ha_99 (by omega)) (nm_r (nI_1 r) nt))
        | false =>
          have nn : (∀ b d, b < (if ns = 0 then 1 else ns) → d < (if ns = 0 then 1 else ns) → ¬ hp_md n ns A F r0 r1 rc g r z b d) → ∀ x, x = nI z + 1 → wL_law_1189 post Lx xs J507 J517 (wL_law_1169 post Lx xs J507 J517 (nI n) q3 q5 q12 q13 q15 q16 (nI g) (nI ns) kc ks f) (nI n) q3 q5 q12 q13 q15 q16 (nI g) (nI ns) (nI r) kc ks f' (-99) x (nI n) 16 32 ph (nI c) (nI ne) (nI nr) (nI ns) kn K L R M A Z E r0 r1 rc F := fun q => nm_r (nI_1 z) (ny false (lt_s hb2 q))
          refine br_f (nI_ge (b := 16) hz (by decide)) (br_t rfl (nm_r (ha_a3 (by omega)) (nm_r (ha_s2 (by omega)) ?_)))
          by_cases v1 : n ≤ z % 4
          · exact br_t (nI_le v1 (by omega)) (nn (fun b d _ _ m => by have := m.1.1; omega))
          · refine br_f (nI_ge (by omega) (by omega)) ?_
            by_cases v2 : n ≤ z / 4
            · exact br_t (nI_le v2 (by omega)) (nn (fun b d _ _ m => by have := m.1.2; omega))
            · have hV : hp_V n z := ⟨by omega, by omega⟩
              have gid : ∀ (h : Nat) (post' : Int32 → Prop), h < c → post' (A (h * 16 + z)) → wpX_groundId post' (nI n, 16, 32, ph, nI c, nI ne, nI nr, nI ns, kn, K, L, R, M, A, Z, E, r0, r1, rc, F) (nI h) (nI (z % 4)) (nI (z / 4)) := fun h post' hh hp => by
                refine xg_id b3 b1 hh (by omega) (by omega) ?_
                rw [show h * 16 + (4 * (z / 4) + z % 4) = h * 16 + z by omega]
                exact hp
              refine br_f (nI_ge (by omega) (by omega)) (lt_r2 hr b5 ?_)
              rw [ec]
              refine gid hc _ hcc ?_
              by_cases e : A (hc * 16 + z) = nI g
              · refine br_t e (lt_r0 hr b5 (lt_r1 hr b5 ?_))
                have fin : ∀ x33 x34, (¬ r0 r = -1 → x33 = A ((r0 r).toNatClampNeg * 16 + z)) → (¬ r1 r = -1 → x34 = A ((r1 r).toNatClampNeg * 16 + z)) → wL_law_1308 post Lx xs J507 J517 (wL_law_1169 post Lx xs J507 J517 (nI n) q3 q5 q12 q13 q15 q16 (nI g) (nI ns) kc ks f) (wL_law_1189 post Lx xs J507 J517 (wL_law_1169 post Lx xs J507 J517 (nI n) q3 q5 q12 q13 q15 q16 (nI g) (nI ns) kc ks f) (nI n) q3 q5 q12 q13 q15 q16 (nI g) (nI ns) (nI r) kc ks f') (nI n) q3 q5 q12 q13 q15 q16 (nI g) (nI ns) (-99) (nI r) (nI z) (r0 r) (r1 r) x33 x34 kc ks (nI n) 16 32 ph (nI c) (nI ne) (nI nr) (nI ns) kn K L R M A Z E r0 r1 rc F := fun x33 x34 h33 h34 => by
                  by_cases n0 : ns = 0
                  · have z0 : nI ns ≤ 0 := by rw [n0]; decide
                    exact br_t z0 (ls_1326 (lim := 1) J p1 hns hg hr hz hV (by rw [ecc]; exact e) h33 h34 (by rw [if_pos n0]) (ny true trivial) (fun q => ny false (lt_s hb2 (by rw [if_pos n0]; exact q))))
                  · exact br_f (nI_nle (by omega) (by omega)) (ls_1326 (lim := ns) J p1 hns hg hr hz hV (by rw [ecc]; exact e) h33 h34 (by rw [if_neg n0]) (ny true trivial) (fun q => ny false (lt_s hb2 (by rw [if_neg n0]; exact q))))
                have f87 : ∀ x33, (¬ r0 r = -1 → x33 = A ((r0 r).toNatClampNeg * 16 + z)) → wL_law_1287 post Lx xs J507 J517 (wL_law_1169 post Lx xs J507 J517 (nI n) q3 q5 q12 q13 q15 q16 (nI g) (nI ns) kc ks f) (wL_law_1189 post Lx xs J507 J517 (wL_law_1169 post Lx xs J507 J517 (nI n) q3 q5 q12 q13 q15 q16 (nI g) (nI ns) kc ks f) (nI n) q3 q5 q12 q13 q15 q16 (nI g) (nI ns) (nI r) kc ks f') (nI n) q3 q5 q12 q13 q15 q16 (nI g) (nI ns) (-99) (nI r) (nI z) (nI (z % 4)) (nI (z / 4)) (r0 r) (r1 r) x33 kc ks (nI n) 16 32 ph (nI c) (nI ne) (nI nr) (nI ns) kn K L R M A Z E r0 r1 rc F := fun x33 h33 => by
                  rcases o2 with e2 | ⟨h, hh, e2⟩
                  · exact br_f (by rw [e2]; decide) (fin x33 (-1) h33 (fun y => absurd e2 y))
                  · refine br_t (by rw [e2]; exact nI_pos' (by omega)) ?_
                    have := gid h (fun x => wL_law_1308 post Lx xs J507 J517 (wL_law_1169 post Lx xs J507 J517 (nI n) q3 q5 q12 q13 q15 q16 (nI g) (nI ns) kc ks f) (wL_law_1189 post Lx xs J507 J517 (wL_law_1169 post Lx xs J507 J517 (nI n) q3 q5 q12 q13 q15 q16 (nI g) (nI ns) kc ks f) (nI n) q3 q5 q12 q13 q15 q16 (nI g) (nI ns) (nI r) kc ks f') (nI n) q3 q5 q12 q13 q15 q16 (nI g) (nI ns) (-99) (nI r) (nI z) (r0 r) (r1 r) x33 x kc ks (nI n) 16 32 ph (nI c) (nI ne) (nI nr) (nI ns) kn K L R M A Z E r0 r1 rc F) hh (fin x33 _ h33 (fun _ => by rw [e2, nI_clamp (by omega)]))
                    rw [← e2] at this
                    exact this
                rcases o1 with e2 | ⟨h, hh, e2⟩
                · exact br_f (by rw [e2]; decide) (f87 (-1) (fun y => absurd e2 y))
                · refine br_t (by rw [e2]; exact nI_pos' (by omega)) ?_
                  have := gid h (fun x => wL_law_1287 post Lx xs J507 J517 (wL_law_1169 post Lx xs J507 J517 (nI n) q3 q5 q12 q13 q15 q16 (nI g) (nI ns) kc ks f) (wL_law_1189 post Lx xs J507 J517 (wL_law_1169 post Lx xs J507 J517 (nI n) q3 q5 q12 q13 q15 q16 (nI g) (nI ns) kc ks f) (nI n) q3 q5 q12 q13 q15 q16 (nI g) (nI ns) (nI r) kc ks f') (nI n) q3 q5 q12 q13 q15 q16 (nI g) (nI ns) (-99) (nI r) (nI z) (nI (z % 4)) (nI (z / 4)) (r0 r) (r1 r) x kc ks (nI n) 16 32 ph (nI c) (nI ne) (nI nr) (nI ns) kn K L R M A Z E r0 r1 rc F) hh (f87 _ (fun _ => by rw [e2, nI_clamp (by omega)]))
                  rw [← e2] at this
                  exact this
              · exact br_f e (nn (fun b d _ _ m => e (by rw [← ecc]; exact m.2.1)))
end HSD
