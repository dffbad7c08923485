/-! make -/
def hp_tq (K L R : Nat → Int32) (k a b : Int32) (i : Nat) : Prop := K i = k ∧ L i = a ∧ R i = b
section HK
variable {n tm pm c ne nr ns : Nat} {ph kn : Int32} {K L R M A Z E r0 r1 rc F Ym Yc Yk : Nat → Int32} {a b kk : Int32}
theorem xm_3 {post : Int32 → Prop} (hc : c ≤ 16) (hf : ∀ i, i < c → hp_tq K L R kk a b i → (∀ q, q < i → ¬ hp_tq K L R kk a b q) → post (nI i)) (h0 : (∀ q, q < c → ¬ hp_tq K L R kk a b q) → post (-1)) : wpX_findTerm post (nI n, nI tm, nI pm, ph, nI c, nI ne, nI nr, nI ns, kn, K, L, R, M, A, Z, E, r0, r1, rc, F) kk a b := by
  refine pk_loop (fun f i (_ : Unit) => wX_findTerm_3 post kk a b (nI n) (nI tm) (nI pm) ph (nI c) (nI ne) (nI nr) (nI ns) kn K L R M A Z E r0 r1 rc F f (nI i)) (fun i _ => ∀ q, q < i → ¬ hp_tq K L R kk a b q) c 0 () (by omega) (fun q hq => absurd hq (Nat.not_lt_zero q)) ?_ ?_
  · intro f s hs
    exact br_t (nI_le (Nat.le_refl _) (by omega)) (h0 hs)
  · intro f i s hi hs nx
    have hin : vp_in (nI i) 16 := vp_in_nI (by omega) (by decide)
    have hcl : (nI i).toNatClampNeg = i := nI_clamp (by omega)
    have nx : ¬ hp_tq K L R kk a b i → ∀ x, x = nI i + 1 → wX_findTerm_3 post kk a b (nI n) (nI tm) (nI pm) ph (nI c) (nI ne) (nI nr) (nI ns) kn K L R M A Z E r0 r1 rc F f x := fun z => nm_r (nI_1 i) (nx () (lt_s hs z))
    refine br_f (nI_ge hi (by omega)) ⟨hin, ?_⟩
    rw [hcl]
    by_cases e1 : K i = kk
    · refine br_t e1 ⟨hin, ?_⟩
      by_cases e2 : L i = a
      · refine br_t e2 ⟨hin, ?_⟩
        by_cases e3 : R i = b
        · exact br_t e3 (hf i hi ⟨e1, e2, e3⟩ hs)
        · exact br_f e3 (nx (fun z => e3 z.2.2))
      · exact br_f e2 (nx (fun z => e2 z.2.1))
    · exact br_f e1 (nx (fun z => e1 z.1))
theorem ym_109 {post : Int32 → SY → Prop} (hc : c ≤ tm) (ht : tm ≤ 16) (hf : ∀ i, i < c → hp_tq K L R kk a b i → (∀ q, q < i → ¬ hp_tq K L R kk a b q) → post (nI i) (nI n, nI tm, nI pm, nI c, nI ne, nI nr, nI ns, ph, kn, K, L, R, Ym, E, r0, r1, rc, F, Yc, Yk))
    (h0 : (∀ q, q < c → ¬ hp_tq K L R kk a b q) → c < tm → post (nI c) (nI n, nI tm, nI pm, nI (c + 1), nI ne, nI nr, nI ns, ph, kn, upd K c kk, upd L c a, upd R c b, Ym, E, r0, r1, rc, F, Yc, Yk)) (h1 : (∀ q, q < c → ¬ hp_tq K L R kk a b q) → ¬ c < tm → post (-6) (nI n, nI tm, nI pm, nI c, nI ne, nI nr, nI ns, ph, kn, K, L, R, Ym, E, r0, r1, rc, F, Yc, Yk)) :
    ∃ f, wY_make_109 post kk a b (nI n) (nI tm) (nI pm) (nI c) (nI ne) (nI nr) (nI ns) ph kn K L R Ym E r0 r1 rc F Yc Yk f 0 := by
  refine pk_loop (fun f i (_ : Unit) => wY_make_109 post kk a b (nI n) (nI tm) (nI pm) (nI c) (nI ne) (nI nr) (nI ns) ph kn K L R Ym E r0 r1 rc F Yc Yk f (nI i)) (fun i _ => ∀ q, q < i → ¬ hp_tq K L R kk a b q) c 0 () (by omega) (fun q hq => absurd hq (Nat.not_lt_zero q)) ?_ ?_
  · intro f s hs
    refine br_t (nI_le (Nat.le_refl _) (by omega)) ?_
    by_cases h : c < tm
    · have hin : vp_in (nI c) 16 := vp_in_nI (by omega) (by decide)
      have hcl : (nI c).toNatClampNeg = c := nI_clamp (by omega)
      refine br_t (nI_lt h (by omega)) ⟨hin, nm_r (e' := upd K c kk) (by rw [hcl]) ⟨hin, nm_r (e' := upd L c a) (by rw [hcl]) ⟨hin, nm_r (e' := upd R c b) (by rw [hcl]) (nm_r (nI_1 c) ?_)⟩⟩⟩
      rw [nI_pred]
      exact h0 hs h
    · exact br_f (nI_nlt (by omega) (by omega)) (h1 hs h)
  · intro f i s hi hs nx
    have hin : vp_in (nI i) 16 := vp_in_nI (by omega) (by decide)
    have hcl : (nI i).toNatClampNeg = i := nI_clamp (by omega)
    have nx : ¬ hp_tq K L R kk a b i → ∀ x, x = nI i + 1 → wY_make_109 post kk a b (nI n) (nI tm) (nI pm) (nI c) (nI ne) (nI nr) (nI ns) ph kn K L R Ym E r0 r1 rc F Yc Yk f x := fun z => nm_r (nI_1 i) (nx () (lt_s hs z))
    refine br_f (nI_ge hi (by omega)) ⟨hin, ?_⟩
    rw [hcl]
    by_cases e1 : K i = kk
    · refine br_t e1 ⟨hin, ?_⟩
      by_cases e2 : L i = a
      · refine br_t e2 ⟨hin, ?_⟩
        by_cases e3 : R i = b
        · exact br_t e3 (hf i hi ⟨e1, e2, e3⟩ hs)
        · exact br_f e3 (nx (fun z => e3 z.2.2))
      · exact br_f e2 (nx (fun z => e2 z.2.1))
    · exact br_f e1 (nx (fun z => e1 z.1))
theorem hm_u {i i' : Nat} (h : hp_tq K L R kk a b i) (l : ∀ q, q < i → ¬ hp_tq K L R kk a b q) (h' : hp_tq K L R kk a b i') (l' : ∀ q, q < i' → ¬ hp_tq K L R kk a b q) : i' = i := by
  rcases Nat.lt_trichotomy i i' with y | y | y
  · exact absurd h (l' i y)
  · exact y.symm
  · exact absurd h' (l i' y)
/-- both sides behind the refusals -/
theorem xm_60 {q : Nat} {P : Int32 → SX → Prop} (J : hp_J n tm pm c ne nr ns ph kn K L R M A Z E r0 r1 rc F Ym Yc Yk) (hb : ph = 0) (hN : hp_N n c kk a b)
    (hP : ∀ r u', (∃ f, wY_make_109 (fun r' v' => r' = r ∧ i_Rel q u' v') kk a b (nI n) (nI tm) (nI pm) (nI c) (nI ne) (nI nr) (nI ns) ph kn K L R Ym E r0 r1 rc F Yc Yk f 0) → P r u') : wX_make_60 P kk a b (nI n) (nI tm) (nI pm) ph (nI c) (nI ne) (nI nr) (nI ns) kn K L R M A Z E r0 r1 rc F := by
  obtain ⟨b1, b2, b3, b4, b5, b6, b7, b8⟩ := hj_b J
  unfold wX_make_60
  refine xm_3 (by omega) (fun i hi h1 h2 => br_f (ha_ne1 (by omega)) (hP _ _ (ym_109 b3 b4 ?_ ?_ ?_))) (fun h0 => br_t rfl ?_)
  · intro i' hi' h1' h2'
    have e := hm_u h1 h2 h1' h2'
    subst e
    exact ⟨rfl, hj_mk J⟩
  · exact fun z => absurd h1 (z i hi)
  · exact fun z => absurd h1 (z i hi)
  · by_cases h : c < tm
    · refine br_t (nI_lt h (by omega)) (xi_add J.1.1 (by omega) hN J.2.1.1 J.2.1.2.1 J.2.1.2.2.1 J.2.1.2.2.2 ?_)
      intro A' M' g1 g2 g3 g4
      refine hP _ _ (ym_109 b3 b4 (fun i hi z => absurd z (h0 i hi)) (fun _ _ => ⟨rfl, ?_⟩) (fun _ z => absurd h z))
      obtain ⟨ns0, kn0, hz⟩ : ns = 0 ∧ kn = 0 ∧ _ := J.2.2.2.2.elim (fun z => z.2) (fun z => absurd (hb.symm.trans z.1) (by decide))
      refine hj_mk ⟨⟨hw_x J.1.1 (by omega) hN, by omega, by omega, b4, b5, b6, b7, b8⟩, ⟨g1, g2, g3, g4⟩, ⟨?_, ?_, ?_⟩, J.2.2.2.1, Or.inl ⟨hb, ns0, kn0, hz⟩⟩
      · intro e he
        obtain ⟨x, x1, x2⟩ := J.2.2.1.1 e he
        exact ⟨x, by omega, x2⟩
      · intro r hr
        obtain ⟨y1, y2, x, x1, x2⟩ := J.2.2.1.2.1 r hr
        exact ⟨y1.imp id (fun ⟨x, x1, x2⟩ => ⟨x, by omega, x2⟩), y2.imp id (fun ⟨x, x1, x2⟩ => ⟨x, by omega, x2⟩), x, by omega, x2⟩
      · intro j hj
        omega
    · refine br_f (nI_nlt (by omega) (by omega)) (hP _ _ (ym_109 b3 b4 (fun i hi z => absurd z (h0 i hi)) (fun _ z => absurd z h) (fun _ _ => ⟨rfl, hj_mk J⟩)))
end HK
theorem i_vc_make {k : Nat} {u : SX} {v : SY} (I : i_Rel k u v) (hk : k + 5 ≤ 2563) (v1 : Int32) (v2 : Int32) (v3 : Int32) : wpX_make (fun r u' => wpY_make (fun r' v' => r' = r ∧ i_Rel (k + 5) u' v') v v1 v2 v3) u v1 v2 v3 := by
  have I' := I
  obtain ⟨n, tm, pm, c, ne, nr, ns, ph, kn, K, L, R, M, A, Z, E, r0, r1, rc, F, Ym, Yc, Yk, rfl, rfl, J⟩ := I
  obtain ⟨b1, b2, b3, b4, b5, b6, b7, b8⟩ := hj_b J
  rcases hj_ph J with p | p
  · have q : ¬ ph = 1 := by rw [p]; decide
    refine br_f q ?_
    unfold wpX_makeRefusal
    by_cases z1 : v1 < 1
    · exact br_t z1 (br_f (by decide) (br_f q (br_t z1 ⟨rfl, I'⟩)))
    · by_cases z5 : (5 : Int32) < v1
      · exact br_f z1 (br_t z5 (br_f (by decide) (br_f q (br_f z1 (br_f (Int32.not_le.mpr z5) ⟨rfl, I'⟩)))))
      · have w5 : v1 ≤ 5 := Int32.not_lt.mp z5
        have w0 : ¬ v1 < 0 := fun z => z1 (Int32.lt_trans z (by decide))
        obtain ⟨i, hi, rfl⟩ := nI_of2 (M := 5) (n := 5) (by decide) w0 w5
        have hi1 : 1 ≤ i := by
          by_cases e : 1 ≤ i
          · exact e
          · exact absurd (nI_lt (b := 1) (by omega) (by decide)) z1
        refine br_f z1 (br_f z5 ?_)
        obtain rfl | rfl | h234 : i = 1 ∨ i = 5 ∨ (i = 2 ∨ i = 3 ∨ i = 4) := by omega
        · -- VAR
          refine br_t rfl ?_
          have key : (v2 = 0 ∨ v2 = 1) → (0 : Int32) ≤ 0 → wX_make_48 (fun r u' => wpY_make (fun r' v' => r' = r ∧ i_Rel (k + 5) u' v') (nI n, nI tm, nI pm, nI c, nI ne, nI nr, nI ns, ph, kn, K, L, R, Ym, E, r0, r1, rc, F, Yc, Yk) (nI 1) v2 v3) (nI 1) v2 v3 0 (nI n) (nI tm) (nI pm) ph (nI c) (nI ne) (nI nr) (nI ns) kn K L R M A Z E r0 r1 rc F := fun hv _ => by
            refine br_t rfl (xm_60 (q := k + 5) J p (Or.inr ⟨b2, Or.inl ⟨rfl, hv, rfl⟩⟩) (fun r u' h => ?_))
            refine br_f q (br_f z1 (br_t w5 (br_t rfl ?_)))
            have h41 : wY_make_41 (fun r' v' => r' = r ∧ i_Rel (k + 5) u' v') (nI 1) v2 v3 (nI n) (nI tm) (nI pm) (nI c) (nI ne) (nI nr) (nI ns) ph kn K L R Ym E r0 r1 rc F Yc Yk := br_f (by decide) (br_t (by decide) (br_t rfl h))
            by_cases e0 : v2 = 0
            · exact br_t e0 h41
            · exact br_f e0 (br_t (hv.resolve_left e0) h41)
          by_cases e0 : v2 = 0
          · exact br_t e0 (br_t (by decide) (br_f (by decide) (br_f (by decide) (br_f (by decide) (key (Or.inl e0) (by decide))))))
          · by_cases e1 : v2 = 1
            · exact br_f e0 (br_t e1 (br_t (by decide) (br_f (by decide) (br_f (by decide) (br_f (by decide) (key (Or.inr e1) (by decide)))))))
            · exact br_f e0 (br_f e1 (br_f (by decide) (br_f q (br_f z1 (br_t w5 (br_t rfl (br_f e0 (br_f e1 ⟨rfl, I'⟩))))))))
        · -- PK
          refine br_f (by decide) (br_f (by decide) (br_f (by decide) (br_f (by decide) (br_t rfl ?_))))
          rcases hp_ix v2 (c := c) (by omega) with ⟨j, hj, rfl⟩ | h2
          · refine xi_h1 hj (by omega) (br_f (by decide) (br_t (by decide) (br_f (by decide) (br_f (by decide) (br_f (by decide) (br_t rfl (xm_60 (q := k + 5) J p (Or.inr ⟨b2, Or.inr (Or.inl ⟨rfl, ⟨j, hj, rfl⟩, rfl⟩)⟩) (fun r u' h => ?_))))))))
            exact br_f q (br_f z1 (br_t w5 (br_f (by decide) (br_t rfl (yi_h1 hj (by omega) (br_f (by decide) (br_f (by decide) (br_t (by decide) (br_f (by decide) (br_t rfl h))))))))))
          · exact xi_h0 h2 (br_t rfl (br_f (by decide) (br_f q (br_f z1 (br_t w5 (br_f (by decide) (br_t rfl (yi_h0 h2 (br_t rfl ⟨rfl, I'⟩)))))))))
        · -- PAIR, SENC, AENC
          have n1 : ¬ nI i = 1 := by rcases h234 with rfl | rfl | rfl <;> decide
          have n5 : ¬ nI i = 5 := by rcases h234 with rfl | rfl | rfl <;> decide
          have l2 : ¬ nI i < 2 := nI_nlt (b := 2) (by omega) (by omega)
          have l4 : ¬ (4 : Int32) < nI i := nI_nlt (a := 4) (by omega) (by omega)
          have kn3 : nI i = 2 ∨ nI i = 3 ∨ nI i = 4 := by rcases h234 with rfl | rfl | rfl <;> decide
          refine br_f n1 ?_
          -- which of the three
          have sx : ∀ (post : Int32 → Prop), wX_makeRefusal_67 post v2 v3 (nI n) (nI tm) (nI pm) ph (nI c) (nI ne) (nI nr) (nI ns) kn K L R M A Z E r0 r1 rc F → (nI i = 2 → wX_makeRefusal_67 post v2 v3 (nI n) (nI tm) (nI pm) ph (nI c) (nI ne) (nI nr) (nI ns) kn K L R M A Z E r0 r1 rc F) ∧ (¬ nI i = 2 → ((nI i = 3 → wX_makeRefusal_67 post v2 v3 (nI n) (nI tm) (nI pm) ph (nI c) (nI ne) (nI nr) (nI ns) kn K L R M A Z E r0 r1 rc F) ∧ (¬ nI i = 3 → ((nI i = 4 → wX_makeRefusal_67 post v2 v3 (nI n) (nI tm) (nI pm) ph (nI c) (nI ne) (nI nr) (nI ns) kn K L R M A Z E r0 r1 rc F) ∧ (¬ nI i = 4 → ((nI i = 5 → wpX_isHandle (fun r => (r = 0 → post (-5)) ∧ (¬ r = 0 → post 0)) (nI n, nI tm, nI pm, ph, nI c, nI ne, nI nr, nI ns, kn, K, L, R, M, A, Z, E, r0, r1, rc, F) v2) ∧ (¬ nI i = 5 → True))))))) := fun post h => by
            rcases kn3 with e | e | e
            · exact br_t e h
            · exact br_f (by rw [e]; decide) (br_t e h)
            · exact br_f (by rw [e]; decide) (br_f (by rw [e]; decide) (br_t e h))
          refine sx _ ?_
          unfold wX_makeRefusal_67
          have yy : ∀ (post : Int32 → SY → Prop), wpY_isHandle (fun r_28 => (((r_28 = 0 → (post (-5) (nI n, nI tm, nI pm, nI c, nI ne, nI nr, nI ns, ph, kn, K, L, R, Ym, E, r0, r1, rc, F, Yc, Yk))) ∧ (¬ r_28 = 0 → (wpY_isHandle (fun r_50 => (((r_50 = 0 → (post (-5) (nI n, nI tm, nI pm, nI c, nI ne, nI nr, nI ns, ph, kn, K, L, R, Ym, E, r0, r1, rc, F, Yc, Yk))) ∧ (¬ r_50 = 0 → (wY_make_89 post (nI i) v2 v3 (nI n) (nI tm) (nI pm) (nI c) (nI ne) (nI nr) (nI ns) ph kn K L R Ym E r0 r1 rc F Yc Yk))))) (nI n, nI tm, nI pm, nI c, nI ne, nI nr, nI ns, ph, kn, K, L, R, Ym, E, r0, r1, rc, F, Yc, Yk) v3))))) (nI n, nI tm, nI pm, nI c, nI ne, nI nr, nI ns, ph, kn, K, L, R, Ym, E, r0, r1, rc, F, Yc, Yk) v2 → wpY_make post (nI n, nI tm, nI pm, nI c, nI ne, nI nr, nI ns, ph, kn, K, L, R, Ym, E, r0, r1, rc, F, Yc, Yk) (nI i) v2 v3 := fun post h =>
            br_f q (br_f z1 (br_t w5 (br_f n1 (br_f n5 (br_f l2 (br_f l4 h))))))
          rcases hp_ix v2 (c := c) (by omega) with ⟨j, hj, rfl⟩ | h2
          · rcases hp_ix v3 (c := c) (by omega) with ⟨j', hj', rfl⟩ | h3
            · refine xi_h1 hj (by omega) (br_f (by decide) (xi_h1 hj' (by omega) (br_f (by decide) (br_t (by decide) ?_))))
              have h43 : wX_make_43 (fun r u' => wpY_make (fun r' v' => r' = r ∧ i_Rel (k + 5) u' v') (nI n, nI tm, nI pm, nI c, nI ne, nI nr, nI ns, ph, kn, K, L, R, Ym, E, r0, r1, rc, F, Yc, Yk) (nI i) (nI j) (nI j')) (nI i) (nI j) (nI j') (nI n) (nI tm) (nI pm) ph (nI c) (nI ne) (nI nr) (nI ns) kn K L R M A Z E r0 r1 rc F := by
                refine br_f (by decide) (xm_60 (q := k + 5) J p (Or.inr ⟨b2, Or.inr (Or.inr ⟨kn3, ⟨j, hj, rfl⟩, ⟨j', hj', rfl⟩⟩)⟩) (fun r u' h => ?_))
                exact yy _ (yi_h1 hj (by omega) (br_f (by decide) (yi_h1 hj' (by omega) (br_f (by decide) (br_f n1 (br_f n5 h))))))
              rcases kn3 with e | e | e
              · exact br_t e h43
              · exact br_f (by rw [e]; decide) (br_t e h43)
              · exact br_f (by rw [e]; decide) (br_f (by rw [e]; decide) (br_t e h43))
            · exact xi_h1 hj (by omega) (br_f (by decide) (xi_h0 h3 (br_t rfl (br_f (by decide) (yy _ (yi_h1 hj (by omega) (br_f (by decide) (yi_h0 h3 (br_t rfl ⟨rfl, I'⟩)))))))))
          · exact xi_h0 h2 (br_t rfl (br_f (by decide) (yy _ (yi_h0 h2 (br_t rfl ⟨rfl, I'⟩)))))
  · exact br_t p (br_t p ⟨rfl, I'⟩)
