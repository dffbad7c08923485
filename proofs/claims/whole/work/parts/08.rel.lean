/-! the relation -/
def hp_J (n tm pm c ne nr ns : Nat) (ph kn : Int32) (K L R M A Z E r0 r1 rc F Ym Yc Yk : Nat → Int32) : Prop :=
  (hp_W n c K L R ∧ n ≤ c ∧ c ≤ tm ∧ tm ≤ 16 ∧ pm ≤ 32 ∧ ne ≤ 8 ∧ nr ≤ 8 ∧ ns ≤ pm) ∧
  (hp_C n c K L R A ∧ (∀ p, 256 ≤ p → A p = 0) ∧ hp_M c K L R M ∧ (∀ h, 16 ≤ h → M h = 0)) ∧
  ((∀ e, e < ne → ∃ h, h < c ∧ E e = nI h) ∧ hp_R c nr r0 r1 rc ∧ (∀ j, j < ns → ∃ g, g < 256 ∧ F j = nI g ∧ A g = nI g)) ∧
  ((∀ p, 256 ≤ p → Yc p = 0) ∧ (∀ h, 16 ≤ h → Ym h = 0)) ∧
  ((ph = 0 ∧ ns = 0 ∧ kn = 0 ∧ (∀ g, g < 256 → Z g = -1) ∧ (∀ g, 256 ≤ g → Z g = 0) ∧ ∀ g, 256 ≤ g → Yk g = 0) ∨
    (ph = 1 ∧ Yk = Z ∧ ∀ g, g < 256 → Z g = -1 ∨ ∃ j, j < 1000 ∧ Z g = nI j))
def i_Rel (_ : Nat) (u : SX) (v : SY) : Prop := ∃ (n tm pm c ne nr ns : Nat) (ph kn : Int32) (K L R M A Z E r0 r1 rc F Ym Yc Yk : Nat → Int32),
  u = (nI n, nI tm, nI pm, ph, nI c, nI ne, nI nr, nI ns, kn, K, L, R, M, A, Z, E, r0, r1, rc, F) ∧
  v = (nI n, nI tm, nI pm, nI c, nI ne, nI nr, nI ns, ph, kn, K, L, R, Ym, E, r0, r1, rc, F, Yc, Yk) ∧
  hp_J n tm pm c ne nr ns ph kn K L R M A Z E r0 r1 rc F Ym Yc Yk
theorem hj_mk {k n tm pm c ne nr ns : Nat} {ph kn : Int32} {K L R M A Z E r0 r1 rc F Ym Yc Yk : Nat → Int32} (h : hp_J n tm pm c ne nr ns ph kn K L R M A Z E r0 r1 rc F Ym Yc Yk) :
    i_Rel k (nI n, nI tm, nI pm, ph, nI c, nI ne, nI nr, nI ns, kn, K, L, R, M, A, Z, E, r0, r1, rc, F) (nI n, nI tm, nI pm, nI c, nI ne, nI nr, nI ns, ph, kn, K, L, R, Ym, E, r0, r1, rc, F, Yc, Yk) :=
  ⟨n, tm, pm, c, ne, nr, ns, ph, kn, K, L, R, M, A, Z, E, r0, r1, rc, F, Ym, Yc, Yk, rfl, rfl, h⟩
