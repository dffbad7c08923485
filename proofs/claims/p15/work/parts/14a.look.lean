/-! groundId, rank, count, know -/
section HG
variable {n c ne nr ns : Nat} {ph kn : Int32} {K L R M A Z E r0 r1 rc F : Nat → Int32}
theorem xg_id {post : Int32 → Prop} {j a b : Nat} (hc : c ≤ 16) (hn : n ≤ 4) (hj : j < c) (ha : a < n) (hb : b < n) (h : post (A (j * 16 + (4 * b + a)))) : wpX_groundId post (nI n, 16, 32, ph, nI c, nI ne, nI nr, nI ns, kn, K, L, R, M, A, Z, E, r0, r1, rc, F) (nI j) (nI a) (nI b) := by
  unfold wpX_groundId
  refine xi_h1 hj (by omega) (br_f (by decide) (xi_n1 ha (by omega) (br_f (by decide) (xi_n1 hb (by omega) (br_f (by decide) ?_)))))
  have e : nI j * 16 + nI a + 4 * nI b = nI (j * 16 + (4 * b + a)) := by
    rw [ha_16, ha_4, nI_add, nI_add]
    exact congrArg nI (by omega)
  rw [e, nI_clamp (by omega)]
  exact ⟨vp_in_nI (by omega) (by decide), h⟩
theorem xg_h {post : Int32 → Prop} {x y z : Int32} (h : x < 0 ∨ nI c ≤ x) (hp : post (-5)) : wpX_groundId post (nI n, 16, 32, ph, nI c, nI ne, nI nr, nI ns, kn, K, L, R, M, A, Z, E, r0, r1, rc, F) x y z := by
  unfold wpX_groundId
  exact xi_h0 h (br_t rfl hp)
theorem xg_x {post : Int32 → Prop} {y z : Int32} {j : Nat} (hc : c ≤ 16) (hj : j < c) (h : y < 0 ∨ nI n ≤ y) (hp : post (-4)) : wpX_groundId post (nI n, 16, 32, ph, nI c, nI ne, nI nr, nI ns, kn, K, L, R, M, A, Z, E, r0, r1, rc, F) (nI j) y z := by
  unfold wpX_groundId
  exact xi_h1 hj (by omega) (br_f (by decide) (xi_n0 h (br_t rfl hp)))
theorem xg_y {post : Int32 → Prop} {z : Int32} {j a : Nat} (hc : c ≤ 16) (hn : n ≤ 4) (hj : j < c) (ha : a < n) (h : z < 0 ∨ nI n ≤ z) (hp : post (-4)) : wpX_groundId post (nI n, 16, 32, ph, nI c, nI ne, nI nr, nI ns, kn, K, L, R, M, A, Z, E, r0, r1, rc, F) (nI j) (nI a) z := by
  unfold wpX_groundId
  exact xi_h1 hj (by omega) (br_f (by decide) (xi_n1 ha (by omega) (br_f (by decide) (xi_n0 h (br_t rfl hp)))))
/-- how many ground ids there are -/
def hp_w (A : Nat → Int32) : Nat → Nat
  | 0 => 0
  | m + 1 => hp_w A m + (if A m = nI m then 1 else 0)
theorem hw_le (m : Nat) : hp_w A m ≤ m := by
  induction m with
  | zero => exact Nat.le_refl _
  | succ m ih =>
    show hp_w A m + (if A m = nI m then 1 else 0) ≤ m + 1
    split <;> omega
theorem xu_4 {post : Int32 → Prop} (h : post (nI (hp_w A 256))) : wpX_universeSize post (nI n, 16, 32, ph, nI c, nI ne, nI nr, nI ns, kn, K, L, R, M, A, Z, E, r0, r1, rc, F) := by
  refine pk_loop (fun f i (_ : Unit) => wX_universeSize_4 post (nI n) 16 32 ph (nI c) (nI ne) (nI nr) (nI ns) kn K L R M A Z E r0 r1 rc F f (nI (hp_w A i)) (nI i)) (fun _ _ => True) 256 0 () (by omega) trivial ?_ ?_
  · intro f s _
    exact br_t (nI_le (a := 256) (b := 256) (by omega) (by decide)) h
  · intro f i s hi _ nx
    have nx := nx () trivial
    refine br_f (nI_ge (b := 256) hi (by decide)) (xi_gid hi (fun e => br_f (by decide) ?_) (fun e => br_t rfl ?_))
    · rw [show hp_w A (i + 1) = hp_w A i + 1 from congrArg (hp_w A i + ·) (if_pos e)] at nx
      exact nm_r (nI_1 _) (nm_r (nI_1 i) nx)
    · rw [show hp_w A (i + 1) = hp_w A i from congrArg (hp_w A i + ·) (if_neg e)] at nx
      exact nm_r (nI_1 i) nx
end HG
