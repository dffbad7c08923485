/-! the replay, level by level -/
noncomputable def hp_cn (P : Nat → Prop) : Nat → Nat
  | 0 => 0
  | m + 1 => hp_cn P m + @ite _ (P m) (Classical.propDecidable _) 1 0
theorem hc_t {P : Nat → Prop} {m : Nat} (h : P m) : hp_cn P (m + 1) = hp_cn P m + 1 := congrArg (hp_cn P m + ·) (if_pos h)
theorem hc_f {P : Nat → Prop} {m : Nat} (h : ¬ P m) : hp_cn P (m + 1) = hp_cn P m := congrArg (hp_cn P m + ·) (if_neg h)
theorem hc_eq {P Q : Nat → Prop} (h : ∀ x, P x ↔ Q x) (m : Nat) : hp_cn P m = hp_cn Q m := by
  have : P = Q := funext fun x => propext (h x)
  rw [this]
theorem hc_le {P Q : Nat → Prop} (h : ∀ x, P x → Q x) (m : Nat) : hp_cn P m ≤ hp_cn Q m := by
  induction m with
  | zero => exact Nat.le_refl _
  | succ m ih =>
    by_cases p : P m
    · rw [hc_t p, hc_t (h m p)]
      omega
    · rw [hc_f p]
      by_cases q : Q m
      · rw [hc_t q]; omega
      · rw [hc_f q]; exact ih
theorem hc_m {P : Nat → Prop} (m : Nat) : hp_cn P m ≤ m := by
  induction m with
  | zero => exact Nat.le_refl _
  | succ m ih =>
    by_cases p : P m
    · rw [hc_t p]; omega
    · rw [hc_f p]; omega
/-- one more -/
theorem hc_1m {P Q : Nat → Prop} {g : Nat} (hq : ∀ x, Q x ↔ P x ∨ x = g) (hp : ¬ P g) : ∀ m, g < m → hp_cn Q m = hp_cn P m + 1 := by
  intro m
  induction m with
  | zero => intro h; omega
  | succ m ih =>
    intro h
    by_cases e : g = m
    · subst e
      rw [hc_t ((hq g).mpr (Or.inr rfl)), hc_f hp]
      have : ∀ k, k ≤ g → hp_cn Q k = hp_cn P k := by
        intro k
        induction k with
        | zero => exact fun _ => rfl
        | succ k ihk =>
          intro hk
          by_cases p : P k
          · rw [hc_t p, hc_t ((hq k).mpr (Or.inl p)), ihk (by omega)]
          · rw [hc_f p, hc_f (fun z => ((hq k).mp z).elim p (by omega)), ihk (by omega)]
      rw [this g (Nat.le_refl _)]
    · have i := ih (by omega)
      by_cases p : P m
      · rw [hc_t p, hc_t ((hq m).mpr (Or.inl p)), i]
      · rw [hc_f p, hc_f (fun z => ((hq m).mp z).elim p (fun y => e y.symm)), i]
/-- what has its step at level lev, id gg -/
def hp_dn (Z : Nat → Int32) (lev gg x : Nat) : Prop := x < 256 ∧ ∃ i, i < 400 ∧ Z x = nI i ∧ (i < lev ∨ (i = lev ∧ x < gg))
def hp_iv (Z : Nat → Int32) (lev gg ns : Nat) (F : Nat → Int32) : Prop :=
  (∀ j, j < ns → ∃ x, F j = nI x ∧ hp_dn Z lev gg x) ∧ (∀ x, hp_dn Z lev gg x → ∃ j, j < ns ∧ F j = nI x) ∧ ns = hp_cn (hp_dn Z lev gg) 256
section HLV
variable {n c ne nr ns : Nat} {ph kn : Int32} {K L R M A Z E r0 r1 rc F : Nat → Int32} {post : Int32 → Prop} {Lx : Nat} {xs : Nat → Int32} {kc ks : Nat}
theorem hd_e {lev gg lev' gg' : Nat} (h : ∀ x, hp_dn Z lev gg x ↔ hp_dn Z lev' gg' x) (hi : hp_iv Z lev gg ns F) : hp_iv Z lev' gg' ns F := by
  refine ⟨fun j hj => ?_, fun x hx => hi.2.1 x ((h x).mpr hx), ?_⟩
  · obtain ⟨x, x1, x2⟩ := hi.1 j hj
    exact ⟨x, x1, (h x).mp x2⟩
  · rw [← hc_eq h]
    exact hi.2.2
theorem hd_n {lev gg : Nat} (h : ¬ (gg < 256 ∧ Z gg = nI lev)) (hl : lev < 400) (x : Nat) : hp_dn Z lev gg x ↔ hp_dn Z lev (gg + 1) x := by
  constructor
  · rintro ⟨a, i, b, e, z | z⟩
    · exact ⟨a, i, b, e, Or.inl z⟩
    · exact ⟨a, i, b, e, Or.inr ⟨z.1, by omega⟩⟩
  · rintro ⟨a, i, b, e, z | z⟩
    · exact ⟨a, i, b, e, Or.inl z⟩
    · by_cases eg : x = gg
      · subst eg
        rw [z.1] at e
        exact absurd ⟨a, e⟩ h
      · exact ⟨a, i, b, e, Or.inr ⟨z.1, by omega⟩⟩
theorem hd_s {lev gg : Nat} (hg : gg < 256) (hz : Z gg = nI lev) (hl : lev < 400) (x : Nat) : hp_dn Z lev (gg + 1) x ↔ hp_dn Z lev gg x ∨ x = gg := by
  constructor
  · rintro ⟨a, i, b, e, z | z⟩
    · exact Or.inl ⟨a, i, b, e, Or.inl z⟩
    · by_cases eg : x = gg
      · exact Or.inr eg
      · exact Or.inl ⟨a, i, b, e, Or.inr ⟨z.1, by omega⟩⟩
  · rintro (⟨a, i, b, e, z | z⟩ | rfl)
    · exact ⟨a, i, b, e, Or.inl z⟩
    · exact ⟨a, i, b, e, Or.inr ⟨z.1, by omega⟩⟩
    · exact ⟨hg, lev, hl, hz, Or.inr ⟨rfl, by omega⟩⟩
theorem hd_g {lev gg : Nat} (hz : Z gg = nI lev) (hl : lev < 400) : ¬ hp_dn Z lev gg gg := by
  rintro ⟨a, i, b, e, z | z⟩
  · have := ha_eq (e.symm.trans hz) (by omega) (by omega)
    omega
  · omega
theorem hd_x {lev : Nat} (hl : lev + 1 < 400) (x : Nat) : hp_dn Z lev 256 x ↔ hp_dn Z (lev + 1) 0 x := by
  constructor
  · rintro ⟨a, i, b, e, z | z⟩
    · exact ⟨a, i, b, e, Or.inl (by omega)⟩
    · exact ⟨a, i, b, e, Or.inl (by omega)⟩
  · rintro ⟨a, i, b, e, z | z⟩
    · by_cases h : i < lev
      · exact ⟨a, i, b, e, Or.inl h⟩
      · exact ⟨a, i, b, e, Or.inr ⟨by omega, a⟩⟩
    · omega
/-- a step more -/
theorem hd_p {lev gg : Nat} (hg : gg < 256) (hz : Z gg = nI lev) (hl : lev < 400) (hi : hp_iv Z lev gg ns F) : hp_iv Z lev (gg + 1) (ns + 1) (upd F ns (nI gg)) := by
  have hs := hd_s hg hz hl
  refine ⟨fun j hj => ?_, fun x hx => ?_, ?_⟩
  · by_cases e : j = ns
    · subst e
      exact ⟨gg, pk_us, (hs gg).mpr (Or.inr rfl)⟩
    · obtain ⟨x, x1, x2⟩ := hi.1 j (by omega)
      exact ⟨x, by rw [pk_un e]; exact x1, (hs x).mpr (Or.inl x2)⟩
  · rcases (hs x).mp hx with h | rfl
    · obtain ⟨j, j1, j2⟩ := hi.2.1 x h
      exact ⟨j, by omega, by rw [pk_un (by omega)]; exact j2⟩
    · exact ⟨ns, by omega, pk_us⟩
  · rw [hc_1m hs (hd_g hz hl) 256 hg, ← hi.2.2]
/-- room for a step, while the ids of rank at most t are at most 32 -/
theorem hd_r {lev gg t : Nat} (hg : gg < 256) (hz : Z gg = nI lev) (hl : lev ≤ t) (ht : t < 400) (hm : hp_cn (hp_H Z t) 256 ≤ 32) (hi : hp_iv Z lev gg ns F) : ns < 32 ∧ ns + 1 ≤ hp_cn (hp_H Z t) 256 := by
  have h1 := hc_1m (hd_s hg hz (by omega)) (hd_g hz (by omega)) 256 hg
  have h2 : hp_cn (hp_dn Z lev (gg + 1)) 256 ≤ hp_cn (hp_H Z t) 256 := hc_le (fun x ⟨_, i, _, e, z⟩ => ⟨i, by omega, e⟩) 256
  have h3 := hi.2.2
  omega
theorem ll_517 {q3 : Int32} {J507 : hq_T10} {t tid m lev : Nat} (J : hx_J n c ne nr ns ph kn K L R M A Z E r0 r1 rc F) (p1 : ph = 1) (ht : t < 300) (hlt : lev < t) (hm : hp_cn (hp_H Z t) 256 ≤ 32) (hi : hp_iv Z lev 0 ns F)
    (h : ∀ ns F, hx_J n c ne nr ns ph kn K L R M A Z E r0 r1 rc F → hp_iv Z (lev + 1) 0 ns F → J507 (nI (lev + 1)) (nI n) 16 32 ph (nI c) (nI ne) (nI nr) (nI ns) kn K L R M A Z E r0 r1 rc F) : ∃ f, wL_law_517 post Lx xs J507 (nI n) q3 (nI c) (nI t) (nI tid) (nI m) (nI lev) kc ks f 0 (nI n) 16 32 ph (nI c) (nI ne) (nI nr) (nI ns) kn K L R M A Z E r0 r1 rc F := by
  obtain ⟨b1, b2, b3, b4, b5, b6, b7⟩ := hj_b J
  have W := J.1.1
  have C := J.2.1.1
  obtain ⟨_, hY, _, _⟩ := J.2.2.2.resolve_left (fun z => absurd (p1.symm.trans z.1) (by decide))
  refine pk_loop (fun f gg (s : Nat × (Nat → Int32)) => wL_law_517 post Lx xs J507 (nI n) q3 (nI c) (nI t) (nI tid) (nI m) (nI lev) kc ks f (nI gg) (nI n) 16 32 ph (nI c) (nI ne) (nI nr) (nI s.1) kn K L R M A Z E r0 r1 rc (s.2))
    (fun gg s => hx_J n c ne nr s.1 ph kn K L R M A Z E r0 r1 rc s.2 ∧ hp_iv Z lev gg s.1 s.2) 256 0 (ns, F) (by omega) ⟨J, hi⟩ ?_ ?_
  · intro f s hs
    exact br_t (nI_le (a := 256) (b := 256) (by omega) (by decide)) (nm_r (nI_1 lev) (h s.1 s.2 hs.1 (hd_e (hd_x (by omega)) hs.2)))
  · intro f gg s hg hs nx
    have n0 : ¬ (gg < 256 ∧ Z gg = nI lev) → ∀ x, x = nI gg + 1 → wL_law_517 post Lx xs J507 (nI n) q3 (nI c) (nI t) (nI tid) (nI m) (nI lev) kc ks f x (nI n) 16 32 ph (nI c) (nI ne) (nI nr) (nI s.1) kn K L R M A Z E r0 r1 rc (s.2) := fun z => nm_r (nI_1 gg) (nx s ⟨hs.1, hd_e (hd_n z (by omega)) hs.2⟩)
    have val : Z gg = nI lev → A gg = nI gg := fun z => by
      rcases hY.1 gg hg with a | a
      · rw [z] at a
        exact absurd a (ha_ne1 (by omega))
      · exact a.1
    have e16 : ¬ nI lev = nI t := fun z => by
      have := ha_eq z (by omega) (by omega)
      omega
    refine br_f (nI_ge (b := 256) hg (by decide)) (nm_r (ha_s4 (by omega)) (nm_r (ha_a3 (by omega)) (nm_r (ha_s24 (by omega)) (lc_3 (br_f e16 ?_)))))
    by_cases v0 : c ≤ gg / 16
    · refine br_t (nI_le v0 (by omega)) (n0 (fun z => ?_))
      have := (hc_g C hg (val z.2)).1
      omega
    · refine br_f (nI_ge (by omega) (by omega)) ?_
      by_cases v1 : n ≤ gg % 4
      · refine br_t (nI_le v1 (by omega)) (n0 (fun z => ?_))
        have := (hc_g C hg (val z.2)).2.1
        omega
      · refine br_f (nI_ge (by omega) (by omega)) ?_
        by_cases v2 : n ≤ gg / 4 % 4
        · refine br_t (nI_le v2 (by omega)) (n0 (fun z => ?_))
          have := (hc_g C hg (val z.2)).2.2
          omega
        · have hV : hp_V n (gg % 16) := ⟨by omega, by omega⟩
          refine br_f (nI_ge (by omega) (by omega)) (lg_p hs.1 (by omega) hV ?_)
          by_cases e : A gg = nI gg
          · refine br_t e (lr_1 hs.1 p1 (by omega) (by omega) (by omega) (w := gg) (by rw [show gg / 16 * 16 + (4 * (gg / 4 % 4) + gg % 4) = gg by omega]; exact e) hg ?_)
            by_cases z : Z gg = nI lev
            · obtain ⟨r1', r2'⟩ := hd_r hg z (by omega) (by omega) hm hs.2
              refine br_t z (ls_627 hs.1 p1 r1' hg e (hx_S hs.1 p1 r1' hg e (by rw [z]; exact ha_ne1 (by omega))) ?_ rfl (lev := lev) (by omega) z ?_ ?_)
              · exact nx (s.1 + 1, upd s.2 s.1 (nI gg)) ⟨hx_S hs.1 p1 r1' hg e (by rw [z]; exact ha_ne1 (by omega)), hd_p hg z (by omega) hs.2⟩
              · rintro x hx ⟨i, i1, i2⟩
                exact hs.2.2.1 x ⟨hx, i, by omega, i2, Or.inl i1⟩
              · intro j hj y
                obtain ⟨x, x1, x2⟩ := hs.2.1 j hj
                have ex : x = gg := ha_eq (x1.symm.trans y) (by have := x2.1; omega) (by omega)
                subst ex
                exact hd_g z (by omega) x2
            · exact br_f z (n0 (fun y => z y.2))
          · exact br_f e (n0 (fun y => e (val y.2)))
theorem ll_517t {q3 : Int32} {J507 : hq_T10} {t tid m : Nat} (J : hx_J n c ne nr ns ph kn K L R M A Z E r0 r1 rc F) (p1 : ph = 1) (ht : t < 300) (hm : hp_cn (hp_H Z t) 256 ≤ 32) (hi : hp_iv Z t 0 ns F) (hid : tid < 256) (eid : A tid = nI tid) (zid : Z tid = nI t)
    (h : ∀ ns F, hx_J n c ne nr ns ph kn K L R M A Z E r0 r1 rc F → ns ≤ hp_cn (hp_H Z t) 256 → 0 < ns → F (ns - 1) = nI tid → J507 (nI (t + 1)) (nI n) 16 32 ph (nI c) (nI ne) (nI nr) (nI ns) kn K L R M A Z E r0 r1 rc F) : ∃ f, wL_law_517 post Lx xs J507 (nI n) q3 (nI c) (nI t) (nI tid) (nI m) (nI t) kc ks f 0 (nI n) 16 32 ph (nI c) (nI ne) (nI nr) (nI ns) kn K L R M A Z E r0 r1 rc F := by
  obtain ⟨b1, b2, b3, b4, b5, b6, b7⟩ := hj_b J
  refine pk_loop (fun f gg (s : Nat × (Nat → Int32)) => wL_law_517 post Lx xs J507 (nI n) q3 (nI c) (nI t) (nI tid) (nI m) (nI t) kc ks f (nI gg) (nI n) 16 32 ph (nI c) (nI ne) (nI nr) (nI s.1) kn K L R M A Z E r0 r1 rc (s.2))
    (fun gg s => hx_J n c ne nr s.1 ph kn K L R M A Z E r0 r1 rc s.2 ∧ ((gg ≤ tid ∧ hp_iv Z t 0 s.1 s.2) ∨ (tid < gg ∧ s.1 ≤ hp_cn (hp_H Z t) 256 ∧ 0 < s.1 ∧ s.2 (s.1 - 1) = nI tid))) 256 0 (ns, F) (by omega) ⟨J, Or.inl ⟨by omega, hi⟩⟩ ?_ ?_
  · intro f s hs
    rcases hs.2 with z | ⟨_, z1, z2, z3⟩
    · omega
    · exact br_t (nI_le (a := 256) (b := 256) (by omega) (by decide)) (nm_r (nI_1 t) (h s.1 s.2 hs.1 z1 z2 z3))
  · intro f gg s hg hs nx
    refine br_f (nI_ge (b := 256) hg (by decide)) (nm_r (ha_s4 (by omega)) (nm_r (ha_a3 (by omega)) (nm_r (ha_s24 (by omega)) (lc_3 (br_t rfl ?_)))))
    by_cases e : gg = tid
    · subst e
      refine br_t rfl ?_
      have iv := hs.2.resolve_right (fun z => by omega)
      have nd : ∀ x, hp_dn Z t 0 x → hp_dn Z t gg x := fun x ⟨a, i, b, e, z⟩ => ⟨a, i, b, e, Or.inl (by omega)⟩
      have h1 : hp_cn (hp_dn Z t 0) 256 ≤ hp_cn (hp_dn Z t gg) 256 := hc_le nd 256
      have h2 := hc_1m (hd_s hg zid (by omega)) (hd_g zid (by omega)) 256 hg
      have h3 : hp_cn (hp_dn Z t (gg + 1)) 256 ≤ hp_cn (hp_H Z t) 256 := hc_le (fun x ⟨_, i, _, e, z⟩ => ⟨i, by omega, e⟩) 256
      have h4 := iv.2.2.2
      have r1' : s.1 < 32 := by omega
      have zn : ¬ Z gg = -1 := by rw [zid]; exact ha_ne1 (by omega)
      refine ls_627 hs.1 p1 r1' hg eid (hx_S hs.1 p1 r1' hg eid zn) ?_ rfl (lev := t) (by omega) zid ?_ ?_
      · exact nx (s.1 + 1, upd s.2 s.1 (nI gg)) ⟨hx_S hs.1 p1 r1' hg eid zn, Or.inr ⟨by omega, (by omega : s.1 + 1 ≤ hp_cn (hp_H Z t) 256), Nat.succ_pos _, pk_us⟩⟩
      · rintro x hx ⟨i, i1, i2⟩
        exact iv.2.2.1 x ⟨hx, i, by omega, i2, Or.inl i1⟩
      · intro j hj y
        obtain ⟨x, x1, x2⟩ := iv.2.1 j hj
        have ex : x = gg := ha_eq (x1.symm.trans y) (by have := x2.1; omega) (by omega)
        subst ex
        exact hd_g zid (by omega) (nd _ x2)
    · refine br_f (fun z => e (ha_eq z (by omega) (by omega))) (nm_r (nI_1 gg) (nx s ⟨hs.1, ?_⟩))
      rcases hs.2 with ⟨z1, z2⟩ | ⟨z1, z2⟩
      · exact Or.inl ⟨by omega, z2⟩
      · exact Or.inr ⟨by omega, z2⟩
theorem ll_507 {k t tid : Nat} (J : hx_J n c ne nr ns ph kn K L R M A Z E r0 r1 rc F) (p1 : ph = 1) (hp : post 1) (hL : Lx ≤ 260) (hk : k ≤ 400) (ht : t < 300) (hm : hp_cn (hp_H Z t) 256 ≤ 32) (n0 : ns = 0) (hid : tid < 256) (eid : A tid = nI tid) (zid : Z tid = nI t) :
    ∃ f, wL_law_507 post Lx xs (nI n) (nI k) (nI c) (nI t) (nI tid) (nI (hp_cn (hp_H Z t) 256)) kc ks f 0 (nI n) 16 32 ph (nI c) (nI ne) (nI nr) (nI ns) kn K L R M A Z E r0 r1 rc F := by
  have no : ∀ x, ¬ hp_dn Z 0 0 x := by
    rintro x ⟨_, i, _, _, z | z⟩ <;> omega
  have c0 : ∀ m, hp_cn (hp_dn Z 0 0) m = 0 := by
    intro m
    induction m with
    | zero => rfl
    | succ m ih => rw [hc_f (no m), ih]
  have iv : hp_iv Z 0 0 ns F := ⟨fun j hj => by omega, fun x hx => absurd hx (no x), by rw [c0, n0]⟩
  refine pk_loop (fun f lev (s : Nat × (Nat → Int32)) => wL_law_507 post Lx xs (nI n) (nI k) (nI c) (nI t) (nI tid) (nI (hp_cn (hp_H Z t) 256)) kc ks f (nI lev) (nI n) 16 32 ph (nI c) (nI ne) (nI nr) (nI s.1) kn K L R M A Z E r0 r1 rc (s.2))
    (fun lev s => hx_J n c ne nr s.1 ph kn K L R M A Z E r0 r1 rc s.2 ∧ ((lev ≤ t ∧ hp_iv Z lev 0 s.1 s.2) ∨ (t < lev ∧ s.1 ≤ hp_cn (hp_H Z t) 256 ∧ 0 < s.1 ∧ s.2 (s.1 - 1) = nI tid))) (t + 1) 0 (ns, F) (by omega) ⟨J, Or.inl ⟨by omega, iv⟩⟩ ?_ ?_
  · intro f s hs
    rcases hs.2 with z | ⟨_, z1, z2, z3⟩
    · omega
    · obtain ⟨b1, b2, b3, b4, b5, b6, b7⟩ := hj_b hs.1
      refine br_t (nI_lt (by omega) (by omega)) (lc_3 (br_f (nI_nlt z1 (by omega)) ?_))
      have e : nI s.1 - 1 = nI (s.1 - 1) := pk_sub (b := 1) z2
      rw [e]
      exact lf_1 (by omega) b6 (br_t z3 (lt_1486 hs.1 p1 hp hL hk))
  · intro f lev s hl hs nx
    rcases hs.2 with ⟨z1, z2⟩ | ⟨z, _⟩
    · refine br_f (nI_nlt (by omega) (by omega)) ?_
      by_cases e : lev = t
      · subst e
        exact ll_517t hs.1 p1 ht hm z2 hid eid zid (fun ns F J h1 h2 h3 => nx (ns, F) ⟨J, Or.inr ⟨by omega, h1, h2, h3⟩⟩)
      · exact ll_517 hs.1 p1 ht (by omega) hm z2 (fun ns F J h => nx (ns, F) ⟨J, Or.inl ⟨by omega, h⟩⟩)
    · omega
end HLV
