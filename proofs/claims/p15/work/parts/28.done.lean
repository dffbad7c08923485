/-! the law's search once its step is found: it goes through to the next id -/
abbrev hq_T10 : Type := Int32 → Int32 → Int32 → Int32 → Int32 → Int32 → Int32 → Int32 → Int32 → Int32 → (Nat → Int32) → (Nat → Int32) → (Nat → Int32) → (Nat → Int32) → (Nat → Int32) → (Nat → Int32) → (Nat → Int32) → (Nat → Int32) → (Nat → Int32) → (Nat → Int32) → (Nat → Int32) → Prop
abbrev hq_T11 : Type := Int32 → hq_T10
def hq_b (b : Bool) (P Q : Prop) : Prop := match b with
  | true => P
  | false => Q
section HDN
variable {n c ne nr ns : Nat} {ph kn : Int32} {K L R M A Z E r0 r1 rc F : Nat → Int32} {post : Int32 → Prop} {Lx : Nat} {xs : Nat → Int32} {J507 J517 : hq_T10} {q1 q3 q5 q12 q13 q15 q16 : Int32} {kc ks g : Nat} {jr : Nat} {x21 x24 x25 x26 : Int32}
theorem ld_1427 (hj : jr < ns) (h32 : ns ≤ 32) (e : F jr = nI g) (h : J517 (nI (g + 1)) (nI n) 16 32 ph (nI c) (nI ne) (nI nr) (nI ns) kn K L R M A Z E r0 r1 rc F) : wL_law_1427 post Lx xs J507 J517 q1 q3 q5 q12 q13 q15 q16 (nI g) (nI jr) kc ks (nI n) 16 32 ph (nI c) (nI ne) (nI nr) (nI ns) kn K L R M A Z E r0 r1 rc F := by
  refine br_f (nI_pos (by omega)) (lf_1 hj h32 ?_)
  exact br_t e (nm_r (nI_1 g) h)
theorem ld_1169 (hj : jr < ns) (h32 : ns ≤ 32) (e : F jr = nI g) (h : J517 (nI (g + 1)) (nI n) 16 32 ph (nI c) (nI ne) (nI nr) (nI ns) kn K L R M A Z E r0 r1 rc F) (f : Nat) (x : Int32) : wL_law_1169 post Lx xs J507 J517 q1 q3 q5 q12 q13 q15 q16 (nI g) x21 kc ks (f + 1) (nI jr) x (nI n) 16 32 ph (nI c) (nI ne) (nI nr) (nI ns) kn K L R M A Z E r0 r1 rc F := by
  unfold wL_law_1169
  refine lc_2 ?_
  by_cases z : nI nr ≤ x
  · exact br_t z (ld_1427 hj h32 e h)
  · exact br_f z (br_f (ha_99 (by omega)) (ld_1427 hj h32 e h))
theorem ld_893 (hj : jr < ns) (h32 : ns ≤ 32) (e : F jr = nI g) (h : J517 (nI (g + 1)) (nI n) 16 32 ph (nI c) (nI ne) (nI nr) (nI ns) kn K L R M A Z E r0 r1 rc F) (f : Nat) (x : Int32) : wL_law_893 post Lx xs J507 J517 q1 q3 q5 q12 q13 q15 q16 (nI g) x21 kc ks (f + 1) (nI jr) x (nI n) 16 32 ph (nI c) (nI ne) (nI nr) (nI ns) kn K L R M A Z E r0 r1 rc F := by
  by_cases z : x21 ≤ x
  · exact br_t z ⟨1, ld_1169 hj h32 e h 0 0⟩
  · exact br_f z (br_f (ha_99 (by omega)) ⟨1, ld_1169 hj h32 e h 0 0⟩)
theorem ld_798 (hj : jr < ns) (h32 : ns ≤ 32) (e : F jr = nI g) (h : J517 (nI (g + 1)) (nI n) 16 32 ph (nI c) (nI ne) (nI nr) (nI ns) kn K L R M A Z E r0 r1 rc F) (f : Nat) (x : Int32) : wL_law_798 post Lx xs J507 J517 q1 q3 q5 q12 q13 q15 q16 (nI g) x21 x24 x25 x26 kc ks (f + 1) (nI jr) x (nI n) 16 32 ph (nI c) (nI ne) (nI nr) (nI ns) kn K L R M A Z E r0 r1 rc F := by
  by_cases z : x21 ≤ x
  · exact br_t z ⟨1, ld_893 hj h32 e h 0 0⟩
  · exact br_f z (br_f (ha_99 (by omega)) ⟨1, ld_893 hj h32 e h 0 0⟩)
/-- what the law reads of the id itself: its parts' ids -/
theorem ld_735 {x23 : Int32} (J : hx_J n c ne nr ns ph kn K L R M A Z E r0 r1 rc F) (hg : g < 256) (hA : A g = nI g)
    (h : ∀ u v, (¬ hp_a K g → u = A (hp_l L g)) → (¬ hp_a K g → ¬ K (g / 16) = 5 → v = A (hp_l R g)) → ∃ f, wL_law_798 post Lx xs J507 J517 q1 q3 q5 q12 q13 q15 q16 (nI g) x21 (K (g / 16)) u v kc ks f x23 0 (nI n) 16 32 ph (nI c) (nI ne) (nI nr) (nI ns) kn K L R M A Z E r0 r1 rc F) :
    wL_law_735 post Lx xs J507 J517 q1 q3 q5 q12 q13 q15 q16 (nI g) (nI (g / 16)) (nI (g % 4)) (nI (g / 4 % 4)) x21 x23 (K (g / 16)) kc ks (nI n) 16 32 ph (nI c) (nI ne) (nI nr) (nI ns) kn K L R M A Z E r0 r1 rc F := by
  obtain ⟨b1, b2, b3, b4, b5, b6, b7⟩ := hj_b J
  have W := J.1.1
  have C := J.2.1.1
  have hv := hc_g C hg hA
  by_cases k0 : K (g / 16) = 0
  · have na : ¬ ¬ hp_a K g := fun z => z (Or.inl k0)
    have l2 : K (g / 16) < 2 := by rw [k0]; decide
    exact br_t l2 (br_t l2 (h _ _ (fun z => absurd z na) (fun z => absurd z na)))
  · have na : ¬ hp_a K g := fun z => z.elim k0 (hc_nv W C hg hA)
    obtain ⟨_, ⟨l, hl, el⟩, hR⟩ := hw_na na W hv.1
    have ell : hp_l L g = l * 16 + g % 16 := by
      unfold hp_l
      rw [el, nI_clamp (by omega)]
    have n2 : ¬ K (g / 16) < 2 := by
      rcases hR with ⟨e, _⟩ | ⟨e | e | e, _⟩ <;> rw [e] <;> decide
    refine br_f n2 (lh_0 hv.1 b3 ?_)
    rw [el]
    refine lg_l J (by omega) hv.2 (br_f n2 ?_)
    rcases hR with ⟨k5, _⟩ | ⟨k234, r, hr, er⟩
    · exact br_t (by rw [k5]; decide) (h _ _ (fun _ => by rw [ell]) (fun _ z => absurd k5 z))
    · have n4 : ¬ (4 : Int32) < K (g / 16) := by rcases k234 with e | e | e <;> rw [e] <;> decide
      have err : hp_l R g = r * 16 + g % 16 := by
        unfold hp_l
        rw [er, nI_clamp (by omega)]
      refine br_f n4 (lh_1 hv.1 b3 ?_)
      rw [er]
      exact lg_l J (by omega) hv.2 (h _ _ (fun _ => by rw [ell]) (fun _ _ => by rw [err]))
theorem ld_735d (J : hx_J n c ne nr ns ph kn K L R M A Z E r0 r1 rc F) (hg : g < 256) (hA : A g = nI g) (hj : jr < ns) (e : F jr = nI g) (h : J517 (nI (g + 1)) (nI n) 16 32 ph (nI c) (nI ne) (nI nr) (nI ns) kn K L R M A Z E r0 r1 rc F) : wL_law_735 post Lx xs J507 J517 q1 q3 q5 q12 q13 q15 q16 (nI g) (nI (g / 16)) (nI (g % 4)) (nI (g / 4 % 4)) x21 (nI jr) (K (g / 16)) kc ks (nI n) 16 32 ph (nI c) (nI ne) (nI nr) (nI ns) kn K L R M A Z E r0 r1 rc F :=
  ld_735 J hg hA (fun u v _ _ => ⟨1, ld_798 hj (hj_b J).2.2.2.2.2.1 e h 0 0⟩)
theorem ld_684 (J : hx_J n c ne nr ns ph kn K L R M A Z E r0 r1 rc F) (hg : g < 256) (hA : A g = nI g) (hj : jr < ns) (e : F jr = nI g) (h : J517 (nI (g + 1)) (nI n) 16 32 ph (nI c) (nI ne) (nI nr) (nI ns) kn K L R M A Z E r0 r1 rc F) (f : Nat) (x : Int32) : wL_law_684 post Lx xs J507 J517 q1 q3 q5 q12 q13 q15 q16 (nI g) (nI (g / 16)) (nI (g % 4)) (nI (g / 4 % 4)) x21 (K (g / 16)) kc ks (f + 1) (nI jr) x (nI n) 16 32 ph (nI c) (nI ne) (nI nr) (nI ns) kn K L R M A Z E r0 r1 rc F := by
  have b := (hj_b J).2.2.2.2.2.1
  unfold wL_law_684
  refine lc_1 ?_
  by_cases z : nI ne ≤ x
  · exact br_t z (ld_735d J hg hA hj e h)
  · exact br_f z (br_f (ha_99 (by omega)) (ld_735d J hg hA hj e h))
end HDN
