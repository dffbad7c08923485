/-! the law's end: steps as they come, then each step's fact is looked at -/
section HTL
variable {n c ne nr ns : Nat} {ph kn : Int32} {K L R M A Z E r0 r1 rc F : Nat → Int32} {post : Int32 → Prop} {Lx : Nat} {xs : Nat → Int32} {kc ks : Nat}
theorem hx_S {g : Nat} (J : hx_J n c ne nr ns ph kn K L R M A Z E r0 r1 rc F) (p1 : ph = 1) (hns : ns < 32) (g1 : g < 256) (g2 : A g = nI g) (g3 : ¬ Z g = -1) : hx_J n c ne nr (ns + 1) ph kn K L R M A Z E r0 r1 rc (upd F ns (nI g)) := by
  obtain ⟨b1, b2, b3, b4, b5, b6, b7⟩ := hj_b J
  obtain ⟨q1, q2, q3, q4⟩ := J.2.2.2.resolve_left (fun z => absurd (p1.symm.trans z.1) (by decide))
  refine ⟨⟨J.1.1, b2, b3, b4, b5, by omega⟩, J.2.1, J.2.2.1, Or.inr ⟨q1, q2, q3, fun j hj => ?_⟩⟩
  by_cases e : j = ns
  · subst e
    exact ⟨g, g1, pk_us, g2, g3⟩
  · rw [pk_un e]
    exact q4 j (by omega)
theorem lt_1615 (J : hx_J n c ne nr ns ph kn K L R M A Z E r0 r1 rc F) (p1 : ph = 1) (hp : post 1) : ∃ f, wL_law_1615 post Lx xs kc ks (nI n) 16 32 ph (nI c) (nI ne) (nI nr) (nI ns) kn K L R M A Z E r0 r1 rc F f 0 := by
  obtain ⟨b1, b2, b3, b4, b5, b6, b7⟩ := hj_b J
  have C := J.2.1.1
  obtain ⟨_, hY, _, hF⟩ := J.2.2.2.resolve_left (fun z => absurd (p1.symm.trans z.1) (by decide))
  refine pk_loop (fun f j (_ : Unit) => wL_law_1615 post Lx xs kc ks (nI n) 16 32 ph (nI c) (nI ne) (nI nr) (nI ns) kn K L R M A Z E r0 r1 rc F f (nI j)) (fun _ _ => True) ns 0 () (by omega) trivial ?_ ?_
  · intro f s _
    show wL_law_1615 post Lx xs kc ks (nI n) 16 32 ph (nI c) (nI ne) (nI nr) (nI ns) kn K L R M A Z E r0 r1 rc F (f + 1) (nI ns)
    unfold wL_law_1615
    exact lc_3 (br_t (nI_le (Nat.le_refl _) (by omega)) hp)
  · intro f j s hj _ nx
    obtain ⟨x, x1, x2, x3, x4⟩ := hF j hj
    have hv := hc_g C x1 x3
    have v1 := hv.2.1
    have v2 := hv.2.2
    have ex : x / 16 * 16 + (4 * (x / 4 % 4) + x % 4) = x := by omega
    show wL_law_1615 post Lx xs kc ks (nI n) 16 32 ph (nI c) (nI ne) (nI nr) (nI ns) kn K L R M A Z E r0 r1 rc F (f + 1) (nI j)
    unfold wL_law_1615
    refine lc_3 (br_f (nI_ge hj (by omega)) (lf_1 hj b6 ?_))
    rw [x2, ha_s4 (by omega), ha_a3 (by omega), ha_s24 (by omega)]
    refine br_f (nI_pos (by omega)) (lr_1 J p1 hv.1 (by omega) (by omega) (w := x) (by rw [ex]; exact x3) x1 ?_)
    have zp : ¬ Z x < 0 := by
      rcases hY.1 x x1 with z | ⟨_, i, _, z⟩
      · exact absurd z x4
      · rw [z]; exact nI_pos (by omega)
    exact br_f zp (lg_p J hv.1 hv.2 (br_t x3 (nm_r (nI_1 j) (nx () trivial))))
theorem lt_1504 (J : hx_J n c ne nr ns ph kn K L R M A Z E r0 r1 rc F) (p1 : ph = 1) (hp : post 1) (hL : Lx ≤ 260) {k r : Nat} (hk : k ≤ 500) (hr : r < 24) : ∃ f, wL_law_1504 post Lx xs (nI r) kc ks f (nI k) 0 (nI n) 16 32 ph (nI c) (nI ne) (nI nr) (nI ns) kn K L R M A Z E r0 r1 rc F := by
  refine pk_loop (fun f i (s : Nat × (Nat → Int32)) => wL_law_1504 post Lx xs (nI r) kc ks f (nI (k + 4 * i)) (nI i) (nI n) 16 32 ph (nI c) (nI ne) (nI nr) (nI s.1) kn K L R M A Z E r0 r1 rc (s.2))
    (fun _ s => hx_J n c ne nr s.1 ph kn K L R M A Z E r0 r1 rc s.2) r 0 (ns, F) (by omega) J ?_ ?_
  · intro f s hs
    exact br_t (nI_le (Nat.le_refl _) (by omega)) (lt_1615 hs p1 hp)
  · intro f i s hi hs nx
    obtain ⟨b1, b2, b3, b4, b5, b6, b7⟩ := hj_b hs
    have key : ∀ (x18 : Int32) (z : Nat), 0 < z → z < 1000 → wL_law_1554 post Lx xs (wL_law_1504 post Lx xs (nI r) kc ks f) (nI (k + 4 * i + 1)) (nI r) (nI i) x18 (nI s.1) (nI z) kc ks (nI n) 16 32 ph (nI c) (nI ne) (nI nr) (nI s.1) kn K L R M A Z E r0 r1 rc (s.2) := fun x18 z z1 z2 => by
      unfold wL_law_1554
      refine nm_r (nI_1 _) (lq_cell (by omega) hL (fun v1 => lq_md z1 z2 (fun a ha => nm_r (nI_1 _) (lq_cell (by omega) hL (fun v2 => ?_)))))
      rw [nI_1 s.1]
      refine lq_md (by omega) (by omega) (fun b hb => nm_r (nI_1 _) (lq_cell (by omega) hL (fun v3 => lq_md (by omega) (by omega) (fun d hd => ?_))))
      refine st_any hs p1 (fun e => nm_r (nI_1 i) ?_) (fun hlt g g1 g2 g3 => nm_r (nI_1 i) ?_)
      · exact nx s hs
      · exact nx (s.1 + 1, upd s.2 s.1 (nI g)) (hx_S hs p1 hlt g1 g2 g3)
    refine br_f (nI_ge hi (by omega)) (nm_r (nI_1 _) (lq_cell (by omega) hL (fun v => lq_md (d := 10) (by omega) (by omega) (fun a ha => lc_3 ?_))))
    by_cases a0 : nI a = 0
    · exact br_t a0 (key _ 8 (by omega) (by omega))
    · refine br_f a0 ?_
      by_cases a9 : nI a = 9
      · exact br_t a9 (key _ 8 (by omega) (by omega))
      · refine br_f a9 ?_
        rw [nI_1 s.1]
        exact key _ _ (by omega) (by omega)
theorem lt_1486 (J : hx_J n c ne nr ns ph kn K L R M A Z E r0 r1 rc F) (p1 : ph = 1) (hp : post 1) (hL : Lx ≤ 260) {k : Nat} (hk : k ≤ 400) : wL_law_1486 post Lx xs (nI k) kc ks (nI n) 16 32 ph (nI c) (nI ne) (nI nr) (nI ns) kn K L R M A Z E r0 r1 rc F := by
  unfold wL_law_1486
  exact nm_r (nI_1 k) (lq_cell (by omega) hL (fun v => lq_md (d := 24) (by omega) (by omega) (fun r hr => lt_1504 J p1 hp hL (by omega) hr)))
end HTL
