/-! make -/
def hp_tq (K L R : Nat → Int32) (k a b : Int32) (i : Nat) : Prop := K i = k ∧ L i = a ∧ R i = b
section HK
variable {n c ne nr ns : Nat} {ph kn : Int32} {K L R M A Z E r0 r1 rc F : Nat → Int32} {a b kk : Int32}
theorem xm_3 {post : Int32 → Prop} (hc : c ≤ 16) (hf : ∀ i, i < c → hp_tq K L R kk a b i → (∀ q, q < i → ¬ hp_tq K L R kk a b q) → post (nI i)) (h0 : (∀ q, q < c → ¬ hp_tq K L R kk a b q) → post (-1)) : wpX_findTerm post (nI n, 16, 32, ph, nI c, nI ne, nI nr, nI ns, kn, K, L, R, M, A, Z, E, r0, r1, rc, F) kk a b := by
  refine pk_loop (fun f i (_ : Unit) => wX_findTerm_3 post kk a b (nI n) 16 32 ph (nI c) (nI ne) (nI nr) (nI ns) kn K L R M A Z E r0 r1 rc F f (nI i)) (fun i _ => ∀ q, q < i → ¬ hp_tq K L R kk a b q) c 0 () (by omega) (fun q hq => absurd hq (Nat.not_lt_zero q)) ?_ ?_
  · intro f s hs
    exact br_t (nI_le (Nat.le_refl _) (by omega)) (h0 hs)
  · intro f i s hi hs nx
    have hin : vp_in (nI i) 16 := vp_in_nI (by omega) (by decide)
    have hcl : (nI i).toNatClampNeg = i := nI_clamp (by omega)
    have nx : ¬ hp_tq K L R kk a b i → ∀ x, x = nI i + 1 → wX_findTerm_3 post kk a b (nI n) 16 32 ph (nI c) (nI ne) (nI nr) (nI ns) kn K L R M A Z E r0 r1 rc F f x := fun z => nm_r (nI_1 i) (nx () (lt_s hs z))
    refine br_f (nI_ge hi (by omega)) ⟨hin, ?_⟩
    rw [hcl]
    by_cases e1 : K i = kk
    · refine br_t e1 ⟨hin, ?_⟩
      by_cases e2 : L i = a
      · refine br_t e2 ⟨hin, ?_⟩
        by_cases e3 : R i = b
        · exact br_t e3 (hf i hi ⟨e1, e2, e3⟩ hs)
        · exact br_f e3 (nx (fun z => e3 z.2.2))
      · exact br_f e2 (nx (fun z => e2 z.2.1))
    · exact br_f e1 (nx (fun z => e1 z.1))
theorem hm_u {i i' : Nat} (h : hp_tq K L R kk a b i) (l : ∀ q, q < i → ¬ hp_tq K L R kk a b q) (h' : hp_tq K L R kk a b i') (l' : ∀ q, q < i' → ¬ hp_tq K L R kk a b q) : i' = i := by
  rcases Nat.lt_trichotomy i i' with y | y | y
  · exact absurd h (l' i y)
  · exact y.symm
  · exact absurd h' (l i' y)
end HK
