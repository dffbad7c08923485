/-! X's states, and what its calls do to them before saturate -/
def hx_J (n c ne nr ns : Nat) (ph kn : Int32) (K L R M A Z E r0 r1 rc F : Nat → Int32) : Prop :=
  (hp_W n c K L R ∧ n ≤ c ∧ c ≤ 16 ∧ ne ≤ 8 ∧ nr ≤ 8 ∧ ns ≤ 32) ∧
  (hp_C n c K L R A ∧ (∀ p, 256 ≤ p → A p = 0) ∧ hp_M c K L R M ∧ (∀ h, 16 ≤ h → M h = 0)) ∧
  ((∀ e, e < ne → ∃ h, h < c ∧ E e = nI h) ∧ hp_R c nr r0 r1 rc ∧ (∀ r, r < nr → M (rc r).toNatClampNeg &&& ((hp_rv M (r0 r) ||| hp_rv M (r1 r)) ^^^ (-1)) = 0)) ∧
  ((ph = 0 ∧ ns = 0 ∧ kn = 0 ∧ (∀ g, g < 256 → Z g = -1) ∧ ∀ g, 256 ≤ g → Z g = 0) ∨
    (ph = 1 ∧ hp_Y n nr ne K L R A r0 r1 rc E Z ∧ kn = nI (hp_k Z 256) ∧ ∀ j, j < ns → ∃ g, g < 256 ∧ F j = nI g ∧ A g = nI g ∧ ¬ Z g = -1))
section HB
variable {n c ne nr ns : Nat} {ph kn : Int32} {K L R M A Z E r0 r1 rc F : Nat → Int32} {mc ms kc ks : Nat}
theorem hj_b (J : hx_J n c ne nr ns ph kn K L R M A Z E r0 r1 rc F) : n ≤ 4 ∧ n ≤ c ∧ c ≤ 16 ∧ ne ≤ 8 ∧ nr ≤ 8 ∧ ns ≤ 32 ∧ 2 ≤ n := ⟨J.1.1.2.1, J.1.2.1, J.1.2.2.1, J.1.2.2.2.1, J.1.2.2.2.2.1, J.1.2.2.2.2.2, J.1.1.1⟩
theorem lx_194 {post : St2 → Prop} (h2 : 2 ≤ n) (h4 : n ≤ 4)
    (h : ∀ A M, hp_C n n (hp_k0 n) (hp_l0 n) (hp_r0 n) A → (∀ p, 256 ≤ p → A p = 0) → hp_M n (hp_k0 n) (hp_l0 n) (hp_r0 n) M → (∀ p, 16 ≤ p → M p = 0) → post (nI n, 16, 32, ph, nI n, nI ne, nI nr, nI ns, kn, hp_k0 n, hp_l0 n, hp_r0 n, M, A, Z, E, r0, r1, rc, F)) :
    ∃ f, wX_init_194 post mc ms kc ks f 0 (nI n) 16 32 ph 0 (nI ne) (nI nr) (nI ns) kn (fun _ => 0) (fun _ => 0) (fun _ => 0) (fun _ => 0) (hp_neg 256) Z E r0 r1 rc F := by
  refine pk_loop (fun f i (s : (Nat → Int32) × (Nat → Int32)) => wX_init_194 post mc ms kc ks f (nI i) (nI n) 16 32 ph (nI i) (nI ne) (nI nr) (nI ns) kn (hp_k0 i) (hp_l0 i) (hp_r0 i) (s.1) (s.2) Z E r0 r1 rc F)
    (fun i s => hp_C n i (hp_k0 i) (hp_l0 i) (hp_r0 i) s.2 ∧ (∀ p, 256 ≤ p → s.2 p = 0) ∧ hp_M i (hp_k0 i) (hp_l0 i) (hp_r0 i) s.1 ∧ (∀ p, 16 ≤ p → s.1 p = 0)) n 0 (fun _ => 0, hp_neg 256) (by omega) ⟨?_, ?_, ?_, ?_⟩ ?_ ?_
  · exact fun p hp => ⟨fun z => absurd z (Nat.not_lt_zero _), fun _ => hn_lo hp⟩
  · exact fun p hp => hn_hi hp
  · exact fun x hx => (if_pos (Or.inl (Nat.zero_le x))).symm
  · exact fun p hp => rfl
  · intro f s hs
    exact br_t (nI_le (Nat.le_refl _) (by omega)) (h s.2 s.1 hs.1 hs.2.1 hs.2.2.1 hs.2.2.2)
  · intro f i s hi hs nx
    refine br_f (nI_ge hi (by omega)) (xi_add (hw_0 h2 h4 i (by omega)) (by omega) (Or.inl ⟨hi, rfl, rfl, rfl⟩) hs.1 hs.2.1 hs.2.2.1 hs.2.2.2 ?_)
    intro A' M' g1 g2 g3 g4
    exact nm_r (nI_1 i) (nx (M', A') ⟨g1, g2, g3, g4⟩)
theorem lx_161 {post : St2 → Prop} (h : ∃ f, wX_init_194 post mc ms kc ks f 0 (nI n) 16 32 ph 0 (nI ne) (nI nr) (nI ns) kn K L R M (hp_neg 256) (hp_neg 256) E r0 r1 rc F) : ∃ f, wX_init_161 post mc ms kc ks (nI n) 16 32 ph 0 (nI ne) (nI nr) (nI ns) kn f 0 K L R M (fun _ => 0) (fun _ => 0) E r0 r1 rc F := by
  refine pk_loop (fun f i (s : Nat → Int32) => wX_init_161 post mc ms kc ks (nI n) 16 32 ph 0 (nI ne) (nI nr) (nI ns) kn f (nI i) K L R M s s E r0 r1 rc F) (fun i s => s = hp_neg i) 256 0 (fun _ => 0) (by omega) hn_0 ?_ ?_
  · intro f s hs
    subst hs
    exact br_t (nI_le (a := 256) (b := 256) (by omega) (by decide)) h
  · intro f i s hi hs nx
    subst hs
    have hin : vp_in (nI i) 256 := vp_in_nI hi (by decide)
    have e : upd (hp_neg i) (nI i).toNatClampNeg (-1) = hp_neg (i + 1) := by
      rw [nI_clamp (by omega)]
      exact hn_s i
    exact br_f (nI_ge (b := 256) hi (by decide)) ⟨hin, nm_r e ⟨hin, nm_r e (nm_r (nI_1 i) (nx _ rfl))⟩⟩
theorem lx_init {post : St2 → Prop} (h2 : 2 ≤ n) (h4 : n ≤ 4)
    (h : ∀ K L R M A Z E r0 r1 rc F, hx_J n n 0 0 0 0 0 K L R M A Z E r0 r1 rc F → post (nI n, 16, 32, 0, nI n, nI 0, nI 0, nI 0, 0, K, L, R, M, A, Z, E, r0, r1, rc, F)) : wpX_init post 11 640 (0, 0, 0, 0, 0, 0, 0, 0, 0) (nI n) 16 32 := by
  refine ⟨by decide, by decide, by decide, by decide, by decide, by decide, by decide, by decide, by decide, by decide, by decide, by decide, by decide, by decide, by decide, by decide, by decide, by decide, by decide, by decide, by decide, by decide, ?_⟩
  refine br_t (nI_le (a := 2) h2 (by omega)) (br_t (nI_le (b := 4) h4 (by omega)) ?_)
  refine br_t (by decide) (br_t (by decide) ?_)
  refine br_t (by decide) (br_t (by decide) ?_)
  refine lx_161 (ne := 0) (nr := 0) (ns := 0) (lx_194 (ne := 0) (nr := 0) (ns := 0) h2 h4 (fun A M c1 c2 c3 c4 => ?_))
  refine h _ _ _ _ _ _ _ _ _ _ _ ⟨⟨hw_0 h2 h4 n (Nat.le_refl _), Nat.le_refl _, by omega, by omega, by omega, by omega⟩, ⟨c1, c2, c3, c4⟩, ⟨fun e he => absurd he (Nat.not_lt_zero _), fun e he => absurd he (Nat.not_lt_zero _), fun e he => absurd he (Nat.not_lt_zero _)⟩, Or.inl ⟨rfl, rfl, rfl, fun g hg => hn_lo hg, fun g hg => hn_hi hg⟩⟩
theorem hm_uq {c' : Nat} {K' L' R' M' : Nat → Int32} (W' : hp_W n c' K' L' R') (hc : c ≤ c') (hM : hp_M c K L R M) (hM' : hp_M c' K' L' R' M') (e : ∀ h, h < c → K' h = K h ∧ L' h = L h ∧ R' h = R h) : ∀ h, h < c → M' h = M h := by
  have w := W'.2.2.1
  intro h
  induction h using Nat.strongRecOn with
  | ind h ih =>
    intro hh
    rw [hM h (by omega), hM' h (by omega)]
    exact hm_c W' (by omega) (fun _ => e h hh) (fun x hx => ih x hx (by omega))
theorem lx_add {post : Int32 → St2 → Prop} {k a b : Int32} (J : hx_J n c ne nr ns ph kn K L R M A Z E r0 r1 rc F) (p : ph = 0) (hN : hp_N n c k a b)
    (h : ∀ r c' K L R M A, hx_J n c' ne nr ns ph kn K L R M A Z E r0 r1 rc F → post r (nI n, 16, 32, ph, nI c', nI ne, nI nr, nI ns, kn, K, L, R, M, A, Z, E, r0, r1, rc, F)) : wX_make_60 post k a b (nI n) 16 32 ph (nI c) (nI ne) (nI nr) (nI ns) kn K L R M A Z E r0 r1 rc F := by
  obtain ⟨b1, b2, b3, b4, b5, b6, b7⟩ := hj_b J
  unfold wX_make_60
  refine xm_3 b3 (fun i hi _ _ => br_f (ha_ne1 (by omega)) (h _ _ _ _ _ _ _ J)) (fun h0 => br_t rfl ?_)
  by_cases hc : c < 16
  · refine br_t (nI_lt (b := 16) hc (by decide)) (xi_add J.1.1 hc hN J.2.1.1 J.2.1.2.1 J.2.1.2.2.1 J.2.1.2.2.2 ?_)
    intro A' M' g1 g2 g3 g4
    have W' := hw_x J.1.1 hc hN
    have em := hm_uq W' (Nat.le_succ c) J.2.1.2.2.1 g3 (fun h hh => ⟨pk_un (by omega), pk_un (by omega), pk_un (by omega)⟩)
    have ev : ∀ x : Int32, (x = -1 ∨ ∃ h, h < c ∧ x = nI h) → hp_rv M' x = hp_rv M x := fun x hx => by
      unfold hp_rv
      by_cases e : x = -1
      · rw [if_pos e, if_pos e]
      · obtain ⟨y, hy, rfl⟩ := hx.resolve_left e
        rw [if_neg e, if_neg e, nI_clamp (by omega), em y hy]
    refine h _ _ _ _ _ _ _ ⟨⟨W', by omega, by omega, b4, b5, b6⟩, ⟨g1, g2, g3, g4⟩, ⟨?_, ?_, ?_⟩, Or.inl (J.2.2.2.elim id (fun z => absurd (p.symm.trans z.1) (by decide)))⟩
    · intro e he
      obtain ⟨x, x1, x2⟩ := J.2.2.1.1 e he
      exact ⟨x, by omega, x2⟩
    · intro r hr
      obtain ⟨y1, y2, x, x1, x2⟩ := J.2.2.1.2.1 r hr
      exact ⟨y1.imp id (fun ⟨x, x1, x2⟩ => ⟨x, by omega, x2⟩), y2.imp id (fun ⟨x, x1, x2⟩ => ⟨x, by omega, x2⟩), x, by omega, x2⟩
    · intro r hr
      obtain ⟨y1, y2, x, x1, x2⟩ := J.2.2.1.2.1 r hr
      have := J.2.2.1.2.2 r hr
      rw [x2, nI_clamp (by omega)] at this ⊢
      rw [ev _ y1, ev _ y2, em x x1]
      exact this
  · exact br_f (nI_nlt (b := 16) (by omega) (by omega)) (h _ _ _ _ _ _ _ J)
theorem lx_make {post : Int32 → St2 → Prop} {i : Nat} {v2 v3 : Int32} (J : hx_J n c ne nr ns ph kn K L R M A Z E r0 r1 rc F) (p : ph = 0) (h1 : 1 ≤ i) (h5 : i ≤ 5) (hv : i = 1 → v2 = 0 ∨ v2 = 1) (hw : ¬ i = 1 → ∃ j, j < c ∧ v2 = nI j) (hx : ∃ j, j < c ∧ v3 = nI j)
    (h : ∀ r c' K L R M A, hx_J n c' ne nr ns ph kn K L R M A Z E r0 r1 rc F → post r (nI n, 16, 32, ph, nI c', nI ne, nI nr, nI ns, kn, K, L, R, M, A, Z, E, r0, r1, rc, F)) : wpX_make post (nI n, 16, 32, ph, nI c, nI ne, nI nr, nI ns, kn, K, L, R, M, A, Z, E, r0, r1, rc, F) (nI i) v2 v3 := by
  obtain ⟨b1, b2, b3, b4, b5, b6, b7⟩ := hj_b J
  have q : ¬ ph = 1 := by rw [p]; decide
  obtain ⟨j', hj', rfl⟩ := hx
  refine br_f q ?_
  unfold wpX_makeRefusal
  refine br_f (nI_nlt (b := 1) h1 (by omega)) (br_f (nI_nlt (a := 5) h5 (by omega)) ?_)
  obtain rfl | rfl | h234 : i = 1 ∨ i = 5 ∨ (i = 2 ∨ i = 3 ∨ i = 4) := by omega
  · have hv := hv rfl
    have key : wX_make_48 post (nI 1) v2 (nI j') 0 (nI n) 16 32 ph (nI c) (nI ne) (nI nr) (nI ns) kn K L R M A Z E r0 r1 rc F := br_t rfl (lx_add J p (Or.inr ⟨b2, Or.inl ⟨rfl, hv, rfl⟩⟩) h)
    refine br_t rfl ?_
    by_cases e0 : v2 = 0
    · exact br_t e0 (br_t (by decide) (br_f (by decide) (br_f (by decide) (br_f (by decide) key))))
    · exact br_f e0 (br_t (hv.resolve_left e0) (br_t (by decide) (br_f (by decide) (br_f (by decide) (br_f (by decide) key)))))
  · obtain ⟨j, hj, rfl⟩ := hw (by decide)
    refine br_f (by decide) (br_f (by decide) (br_f (by decide) (br_f (by decide) (br_t rfl ?_))))
    exact xi_h1 hj (by omega) (br_f (by decide) (br_t (by decide) (br_f (by decide) (br_f (by decide) (br_f (by decide) (br_t rfl (lx_add J p (Or.inr ⟨b2, Or.inr (Or.inl ⟨rfl, ⟨j, hj, rfl⟩, rfl⟩)⟩) h)))))))
  · obtain ⟨j, hj, rfl⟩ := hw (by omega)
    have kn3 : nI i = 2 ∨ nI i = 3 ∨ nI i = 4 := by rcases h234 with rfl | rfl | rfl <;> decide
    have n1 : ¬ nI i = 1 := by rcases h234 with rfl | rfl | rfl <;> decide
    have h43 : wX_make_43 post (nI i) (nI j) (nI j') (nI n) 16 32 ph (nI c) (nI ne) (nI nr) (nI ns) kn K L R M A Z E r0 r1 rc F := br_f (by decide) (lx_add J p (Or.inr ⟨b2, Or.inr (Or.inr ⟨kn3, ⟨j, hj, rfl⟩, ⟨j', hj', rfl⟩⟩)⟩) h)
    refine br_f n1 ?_
    have h67 : ∀ post' : Int32 → Prop, post' 0 → wX_makeRefusal_67 post' (nI j) (nI j') (nI n) 16 32 ph (nI c) (nI ne) (nI nr) (nI ns) kn K L R M A Z E r0 r1 rc F := fun post' hp => xi_h1 hj (by omega) (br_f (by decide) (xi_h1 hj' (by omega) (br_f (by decide) hp)))
    rcases kn3 with e | e | e
    · exact br_t e (h67 _ (br_t (by decide) (br_t e h43)))
    · exact br_f (by rw [e]; decide) (br_t e (h67 _ (br_t (by decide) (br_f (by rw [e]; decide) (br_t e h43)))))
    · exact br_f (by rw [e]; decide) (br_f (by rw [e]; decide) (br_t e (h67 _ (br_t (by decide) (br_f (by rw [e]; decide) (br_f (by rw [e]; decide) (br_t e h43)))))))
theorem lx_know {post : Int32 → St2 → Prop} {j : Nat} (J : hx_J n c ne nr ns ph kn K L R M A Z E r0 r1 rc F) (p : ph = 0) (hj : j < c)
    (h : ∀ r ne' E, hx_J n c ne' nr ns ph kn K L R M A Z E r0 r1 rc F → post r (nI n, 16, 32, ph, nI c, nI ne', nI nr, nI ns, kn, K, L, R, M, A, Z, E, r0, r1, rc, F)) : wpX_know post (nI n, 16, 32, ph, nI c, nI ne, nI nr, nI ns, kn, K, L, R, M, A, Z, E, r0, r1, rc, F) (nI j) := by
  obtain ⟨b1, b2, b3, b4, b5, b6, b7⟩ := hj_b J
  have q : ¬ ph = 1 := by rw [p]; decide
  have hin : vp_in (nI j) 16 := vp_in_nI (by omega) (by decide)
  refine br_f q (xi_h1 hj (by omega) (br_f (by decide) ⟨hin, ?_⟩))
  rw [nI_clamp (n := j) (by omega)]
  by_cases m0 : M j = 0
  · refine br_t m0 ?_
    by_cases full : ne < 8
    · have fin : vp_in (nI ne) 8 := vp_in_nI full (by decide)
      have fcl : (nI ne).toNatClampNeg = ne := nI_clamp (by omega)
      refine br_t (nI_lt (b := 8) full (by decide)) ⟨fin, nm_r (e' := upd E ne (nI j)) (by rw [fcl]) (nm_r (nI_1 ne) (h _ _ _ ⟨⟨J.1.1, b2, b3, by omega, b5, b6⟩, J.2.1, ⟨?_, J.2.2.1.2⟩, Or.inl (J.2.2.2.elim id (fun z => absurd (p.symm.trans z.1) (by decide)))⟩))⟩
      intro e he
      by_cases e1 : e = ne
      · subst e1
        exact ⟨j, hj, pk_us⟩
      · obtain ⟨h0, h1, h2⟩ := J.2.2.1.1 e (by omega)
        exact ⟨h0, h1, by rw [pk_un e1]; exact h2⟩
    · exact br_f (nI_nlt (b := 8) (by omega) (by omega)) (h _ _ _ J)
  · exact br_f m0 (h _ _ _ J)
theorem lx_rule {post : Int32 → St2 → Prop} {j : Nat} {x y : Int32} (J : hx_J n c ne nr ns ph kn K L R M A Z E r0 r1 rc F) (p : ph = 0) (hj : j < c) (hx : x = -1 ∨ ∃ h, h < c ∧ x = nI h) (hy : y = -1 ∨ ∃ h, h < c ∧ y = nI h)
    (h : ∀ r nr' r0 r1 rc, hx_J n c ne nr' ns ph kn K L R M A Z E r0 r1 rc F → post r (nI n, 16, 32, ph, nI c, nI ne, nI nr', nI ns, kn, K, L, R, M, A, Z, E, r0, r1, rc, F)) : wpX_rule post (nI n, 16, 32, ph, nI c, nI ne, nI nr, nI ns, kn, K, L, R, M, A, Z, E, r0, r1, rc, F) x y (nI j) := by
  obtain ⟨b1, b2, b3, b4, b5, b6, b7⟩ := hj_b J
  have q : ¬ ph = 1 := by rw [p]; decide
  have pm : ∀ x : Int32, (x = -1 ∨ ∃ h, h < c ∧ x = nI h) → hp_pm c M x (hp_rv M x) := fun x hx => by
    unfold hp_rv
    rcases hx with rfl | ⟨h, hh, rfl⟩
    · exact Or.inl ⟨rfl, if_pos rfl⟩
    · exact Or.inr ⟨h, hh, rfl, by rw [if_neg (ha_ne1 (by omega)), nI_clamp (by omega)]⟩
  have key : wX_rule_27 post x y (nI j) (nI n) 16 32 ph (nI c) (nI ne) (nI nr) (nI ns) kn K L R M A Z E r0 r1 rc F := by
    refine xr_27 b3 hj b5 (pm x hx) (pm y hy) ?_
    by_cases e : M j &&& ((hp_rv M x ||| hp_rv M y) ^^^ (-1)) = 0
    · rw [if_pos e]
      by_cases h8 : nr < 8
      · rw [if_pos h8]
        refine h _ _ _ _ _ ⟨⟨J.1.1, b2, b3, b4, by omega, b6⟩, J.2.1, ⟨J.2.2.1.1, ?_, ?_⟩, Or.inl (J.2.2.2.elim id (fun z => absurd (p.symm.trans z.1) (by decide)))⟩
        · intro r hr
          by_cases er : r = nr
          · subst er
            rw [pk_us, pk_us, pk_us]
            refine ⟨?_, ?_, j, hj, rfl⟩
            · unfold hp_r1
              split
              · exact hy
              · exact hx
            · unfold hp_r2
              split
              · exact Or.inl rfl
              · exact hy
          · rw [pk_un er, pk_un er, pk_un er]
            exact J.2.2.1.2.1 r (by omega)
        · intro r hr
          by_cases er : r = nr
          · subst er
            rw [pk_us, pk_us, pk_us, nI_clamp (by omega)]
            unfold hp_r1 hp_r2
            by_cases ex : x = -1
            · rw [if_pos ex, if_pos ex]
              have e1 : hp_rv M x = 0 := if_pos ex
              have e2 : hp_rv M (-1) = 0 := if_pos rfl
              rw [e1, hb_zo] at e
              rw [e2, hb_oz]
              exact e
            · rw [if_neg ex, if_neg ex]
              exact e
          · rw [pk_un er, pk_un er, pk_un er]
            exact J.2.2.1.2.2 r (by omega)
      · rw [if_neg h8]
        exact h _ _ _ _ _ J
    · rw [if_neg e]
      exact h _ _ _ _ _ J
  refine br_f q ?_
  rcases hx with rfl | ⟨i, hi, rfl⟩
  · exact br_t rfl key
  · exact br_f (ha_ne1 (by omega)) (xi_h1 hi (by omega) (br_f (by decide) key))
theorem lx_sat {post : Int32 → St2 → Prop} (J : hx_J n c ne nr ns ph kn K L R M A Z E r0 r1 rc F) (p : ph = 0)
    (h : ∀ Z, hx_J n c ne nr 0 1 (nI (hp_k Z 256)) K L R M A Z E r0 r1 rc F → post (nI (hp_k Z 256)) (nI n, 16, 32, 1, nI c, nI ne, nI nr, nI 0, nI (hp_k Z 256), K, L, R, M, A, Z, E, r0, r1, rc, F)) : wpX_saturate post (nI n, 16, 32, ph, nI c, nI ne, nI nr, nI ns, kn, K, L, R, M, A, Z, E, r0, r1, rc, F) := by
  obtain ⟨b1, b2, b3, b4, b5, b6, b7⟩ := hj_b J
  have W := J.1.1
  have C := J.2.1.1
  have hE := J.2.2.1.1
  have hR := J.2.2.1.2.1
  have q : ¬ ph = 1 := by rw [p]; decide
  obtain ⟨_, ns0, kn0, z1, z2⟩ := J.2.2.2.resolve_right (fun z => absurd (p.symm.trans z.1) (by decide))
  obtain ⟨f, f1, f2, f3⟩ := hp_stop (hp_e0 Z A E ne) (hp_D n nr K L R A r0 r1 rc) (fun Rk i g d => d.1)
  have hG := he_G (Z := Z) W C hE z1 ne (Nat.le_refl _)
  subst kn0
  subst ns0
  refine br_f q (xl_18 W C hE b4 z1 ⟨_, xl_55 W C hR b5 hG f1 f2 f3 ?_ f 0 (by omega)⟩)
  exact h _ ⟨⟨W, b2, b3, b4, b5, by omega⟩, J.2.1, J.2.2.1, Or.inr ⟨rfl, hY_of W C hE z1 z2 f1 f2, rfl, fun j hj => absurd hj (Nat.not_lt_zero _)⟩⟩
end HB
