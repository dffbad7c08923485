/-! the reference's small readers, and its refresh -/
section HYR
variable {fN fT fP fc fe fr fs fp fk : Int32} {K L R Ym E r0 r1 rc F Yc Yk : Nat → Int32} {post : Int32 → Prop} {n c g l p q s : Nat}
theorem yi_vc (hn : n ≤ 4) (hs : s < 16) (h1 : hp_V n s → post 1) (h0 : ¬ hp_V n s → post 0) : wpY_validCode post (nI n, fT, fP, fc, fe, fr, fs, fp, fk, K, L, R, Ym, E, r0, r1, rc, F, Yc, Yk) (nI s) := by
  refine br_f (nI_pos (by omega)) (br_f (nI_ge (b := 16) hs (by decide)) ?_)
  rw [ha_a3 (by omega), ha_s2 (by omega)]
  by_cases a : n ≤ s % 4
  · exact br_t (nI_le a (by omega)) (h0 (fun z => by have := z.1; omega))
  · refine br_f (nI_ge (by omega) (by omega)) ?_
    by_cases b : n ≤ s / 4
    · exact br_t (nI_le b (by omega)) (h0 (fun z => by have := z.2; omega))
    · exact br_f (nI_ge (by omega) (by omega)) (h1 ⟨by omega, by omega⟩)
theorem ya_h (hg : g < 256) : (nI g >>> ((4 : Int32) &&& 31)) &&& 15 = nI (g / 16) := by
  rw [ha_s4 (by omega), ha_a15 (by omega), Nat.mod_eq_of_lt (by omega)]
theorem ya_p (hl : l < 16) : (nI l * 16 + nI (g % 16)) &&& 255 = nI (l * 16 + g % 16) := by
  rw [ha_16, nI_add, ha_a255 (by omega)]
theorem yi_gk (hg : g < 256) (h1 : K (g / 16) = 1 → post 0) (h0 : ¬ K (g / 16) = 1 → post (K (g / 16))) : wpY_gkind post (fN, fT, fP, fc, fe, fr, fs, fp, fk, K, L, R, Ym, E, r0, r1, rc, F, Yc, Yk) (nI g) := by
  refine ⟨?_, ?_⟩
  · rw [ya_h hg]
    exact vp_in_nI (by omega) (by decide)
  · rw [ya_h hg, nI_clamp (by omega)]
    exact nm_e ⟨h1, h0⟩
theorem yi_gl (hg : g < 256) (hl : l < 16) (e : L (g / 16) = nI l) (h : post (Yc (l * 16 + g % 16))) : wpY_gleft post (fN, fT, fP, fc, fe, fr, fs, fp, fk, K, L, R, Ym, E, r0, r1, rc, F, Yc, Yk) (nI g) := by
  refine nm_r (ya_h hg) ?_
  rw [nI_clamp (n := g / 16) (by omega), e, ha_a15 (by omega), ya_p hl, nI_clamp (by omega)]
  exact ⟨vp_in_nI (by omega) (by decide), vp_in_nI (by omega) (by decide), h⟩
theorem yi_gr (hg : g < 256) (hl : l < 16) (e : R (g / 16) = nI l) (h : post (Yc (l * 16 + g % 16))) : wpY_gright post (fN, fT, fP, fc, fe, fr, fs, fp, fk, K, L, R, Ym, E, r0, r1, rc, F, Yc, Yk) (nI g) := by
  refine nm_r (ya_h hg) ?_
  rw [nI_clamp (n := g / 16) (by omega), e, ha_a15 (by omega), ya_p hl, nI_clamp (by omega)]
  exact ⟨vp_in_nI (by omega) (by decide), vp_in_nI (by omega) (by decide), h⟩
theorem hw_nm {h : Nat} (W : hp_W n c K L R) (hh : h < c) (k : K h = 0) : L h = nI h := by
  rcases W.2.2.2 h hh with ⟨_, _, z, _⟩ | ⟨_, b | b | ⟨b | b | b, _⟩⟩
  · exact z
  · rw [b.1] at k; exact absurd k (by decide)
  · rw [b.1] at k; exact absurd k (by decide)
  · rw [b] at k; exact absurd k (by decide)
  · rw [b] at k; exact absurd k (by decide)
  · rw [b] at k; exact absurd k (by decide)
theorem yi_nm (W : hp_W n c K L R) (hp : p / 16 < c) (h : post (nI (hp_n K L p))) : wpY_nameOf post (fN, fT, fP, fc, fe, fr, fs, fp, fk, K, L, R, Ym, E, r0, r1, rc, F, Yc, Yk) (nI (p / 16)) (nI (p % 16)) := by
  have w := W.2.2.1
  have hin : vp_in (nI (p / 16)) 16 := vp_in_nI (by omega) (by decide)
  refine ⟨hin, ?_⟩
  rw [nI_clamp (by omega), ha_a3 (by omega), ha_s2 (by omega)]
  unfold hp_n at h
  by_cases k0 : K (p / 16) = 0
  · rw [if_pos k0] at h
    refine br_t k0 ⟨hin, ?_⟩
    rw [hw_nm W hp k0]
    exact h
  · rw [if_neg k0] at h
    refine br_f k0 ⟨hin, ?_⟩
    by_cases l0 : L (p / 16) = 0
    · rw [if_pos l0] at h
      exact br_t l0 h
    · rw [if_neg l0] at h
      exact br_f l0 h
def hp_kk (K : Nat → Int32) (p : Nat) : Int32 := if K (p / 16) = 1 then 0 else K (p / 16)
theorem hk_1 (h : hp_a K p) : hp_kk K p = 0 := by
  unfold hp_kk
  rcases h with h | h
  · rw [h]; rfl
  · rw [if_pos h]
theorem hk_2 (h : ¬ hp_a K p) : hp_kk K p = K (p / 16) := if_neg (fun z => h (Or.inr z))
theorem yi_42 (W : hp_W n c K L R) (hp : p / 16 < c) (hq : q / 16 < c) (h1 : hp_S K L R Yc p q → post 1) (h0 : ¬ hp_S K L R Yc p q → post 0) : wY_same_42 post (nI (p / 16)) (nI (p % 16)) (nI (q / 16)) (nI (q % 16)) (hp_kk K p) (hp_kk K q) fN fT fP fc fe fr fs fp fk K L R Ym E r0 r1 rc F Yc Yk := by
  have w := W.2.2.1
  have ip : vp_in (nI (p / 16)) 16 := vp_in_nI (by omega) (by decide)
  have iq : vp_in (nI (q / 16)) 16 := vp_in_nI (by omega) (by decide)
  have ep : (nI (p / 16)).toNatClampNeg = p / 16 := nI_clamp (by omega)
  have eq : (nI (q / 16)).toNatClampNeg = q / 16 := nI_clamp (by omega)
  unfold wY_same_42
  by_cases ap : hp_a K p
  · rw [hk_1 ap]
    by_cases aq : hp_a K q
    · rw [hk_1 aq]
      refine br_t rfl (br_t rfl (yi_nm W hp (yi_nm W hq ?_)))
      have bp : hp_n K L p < 2 ^ 31 := by unfold hp_n; split <;> (try split) <;> omega
      have bq : hp_n K L q < 2 ^ 31 := by unfold hp_n; split <;> (try split) <;> omega
      by_cases e : hp_n K L p = hp_n K L q
      · exact br_t (by rw [e]) (h1 (Or.inl ⟨ap, aq, e⟩))
      · refine br_f (fun z => e (ha_eq z bp bq)) (h0 ?_)
        rintro (z | z)
        · exact e z.2.2
        · exact z.1 ap
    · rw [hk_2 aq]
      refine br_f (fun z => aq (Or.inl z.symm)) (h0 ?_)
      rintro (z | z)
      · exact aq z.2.1
      · exact z.1 ap
  · rw [hk_2 ap]
    by_cases e : K (p / 16) = K (q / 16)
    · have aq : ¬ hp_a K q := fun z => ap (hs_k z e.symm)
      rw [hk_2 aq]
      obtain ⟨l1, g1, d1, f1⟩ := hw_lp W hp ap
      obtain ⟨l2, g2, d2, f2⟩ := hw_lp W hq aq
      refine br_t e (br_f (fun z => ap (Or.inl z)) ?_)
      rw [ep, eq, d1, d2, ya_p (by omega), ya_p (by omega), nI_clamp (n := l1 * 16 + p % 16) (by omega), nI_clamp (n := l2 * 16 + q % 16) (by omega)]
      refine ⟨ip, vp_in_nI (by omega) (by decide), iq, vp_in_nI (by omega) (by decide), ?_⟩
      rw [← f1, ← f2]
      by_cases a1 : Yc (hp_l L p) = Yc (hp_l L q)
      · refine br_t a1 ?_
        by_cases k5 : K (p / 16) = 5
        · exact br_t k5 (h1 (Or.inr ⟨ap, e, a1, Or.inl k5⟩))
        · obtain ⟨l3, g3, d3, f3⟩ := hw_rp W hp ap k5
          obtain ⟨l4, g4, d4, f4⟩ := hw_rp W hq aq (by rw [← e]; exact k5)
          refine br_f k5 ?_
          rw [d3, d4, ya_p (by omega), ya_p (by omega), nI_clamp (n := l3 * 16 + p % 16) (by omega), nI_clamp (n := l4 * 16 + q % 16) (by omega)]
          refine ⟨ip, vp_in_nI (by omega) (by decide), iq, vp_in_nI (by omega) (by decide), ?_⟩
          rw [← f3, ← f4]
          by_cases a2 : Yc (hp_l R p) = Yc (hp_l R q)
          · exact br_t a2 (h1 (Or.inr ⟨ap, e, a1, Or.inr a2⟩))
          · refine br_f a2 (h0 ?_)
            rintro (z | z)
            · exact ap z.1
            · exact z.2.2.2.elim k5 a2
      · refine br_f a1 (h0 ?_)
        rintro (z | z)
        · exact ap z.1
        · exact a1 z.2.2.1
    · have ne : ¬ K (p / 16) = hp_kk K q := by
        unfold hp_kk
        split
        · exact fun z => ap (Or.inl z)
        · exact e
      refine br_f ne (h0 ?_)
      rintro (z | z)
      · exact ap z.1
      · exact e z.2.1
theorem yi_20 {z : Int32} (w : q / 16 < 16) (h : wY_same_42 post (nI (p / 16)) (nI (p % 16)) (nI (q / 16)) (nI (q % 16)) z (hp_kk K q) fN fT fP fc fe fr fs fp fk K L R Ym E r0 r1 rc F Yc Yk) : wY_same_20 post (nI (p / 16)) (nI (p % 16)) (nI (q / 16)) (nI (q % 16)) z fN fT fP fc fe fr fs fp fk K L R Ym E r0 r1 rc F Yc Yk := by
  have iq : vp_in (nI (q / 16)) 16 := vp_in_nI (by omega) (by decide)
  refine ⟨iq, ?_⟩
  rw [nI_clamp (n := q / 16) (by omega)]
  unfold hp_kk at h
  by_cases k : K (q / 16) = 1
  · rw [if_pos k] at h
    exact br_t k h
  · rw [if_neg k] at h
    exact br_f k ⟨iq, h⟩
theorem yi_same (W : hp_W n c K L R) (hp : p / 16 < c) (hq : q / 16 < c) (h1 : hp_S K L R Yc p q → post 1) (h0 : ¬ hp_S K L R Yc p q → post 0) : wpY_same post (fN, fT, fP, fc, fe, fr, fs, fp, fk, K, L, R, Ym, E, r0, r1, rc, F, Yc, Yk) (nI (p / 16)) (nI (p % 16)) (nI (q / 16)) (nI (q % 16)) := by
  have w := W.2.2.1
  have ip : vp_in (nI (p / 16)) 16 := vp_in_nI (by omega) (by decide)
  have h := yi_42 (fN := fN) (fT := fT) (fP := fP) (fc := fc) (fe := fe) (fr := fr) (fs := fs) (fp := fp) (fk := fk) (Ym := Ym) (E := E) (r0 := r0) (r1 := r1) (rc := rc) (F := F) (Yk := Yk) W hp hq h1 h0
  have h := yi_20 (by omega) h
  refine ⟨ip, ?_⟩
  rw [nI_clamp (n := p / 16) (by omega)]
  unfold hp_kk at h
  by_cases k : K (p / 16) = 1
  · rw [if_pos k] at h
    exact br_t k h
  · rw [if_neg k] at h
    exact br_f k ⟨ip, h⟩
theorem yi_fc10 (W : hp_W n c K L R) (hp : p / 16 < c) (hq : q ≤ p) (hv : hp_V n (q % 16)) (hS : hp_S K L R Yc p q) (hl : ∀ q', q' < q → hp_V n (q' % 16) → ¬ hp_S K L R Yc p q') (h : post (nI q)) :
    ∀ d j, j + d = q → wY_findCanon_10 post (nI (p / 16)) (nI (p % 16)) (nI p) (nI n) fT fP fc fe fr fs fp fk K L R Ym E r0 r1 rc F Yc Yk (d + 1) (nI j) := by
  have w := W.2.2.1
  intro d
  induction d with
  | zero =>
    intro j hj
    have e : j = q := by omega
    subst e
    refine br_f (nI_nlt hq (by omega)) ?_
    rw [ha_a15 (by omega), ha_s4 (by omega)]
    refine yi_vc W.2.1 (by omega) (fun _ => br_f (by decide) (yi_same W hp (by omega) (fun _ => br_f (by decide) h) (fun z => absurd hS z))) (fun z => absurd hv z)
  | succ d ih =>
    intro j hj
    have nx := nm_r (P := fun x => wY_findCanon_10 post (nI (p / 16)) (nI (p % 16)) (nI p) (nI n) fT fP fc fe fr fs fp fk K L R Ym E r0 r1 rc F Yc Yk (d + 1) x) (nI_1 j) (ih (j + 1) (by omega))
    refine br_f (nI_nlt (by omega) (by omega)) ?_
    rw [ha_a15 (by omega), ha_s4 (by omega)]
    refine yi_vc W.2.1 (by omega) (fun v => br_f (by decide) (yi_same W hp (by omega) (fun z => absurd z (hl j (by omega) v)) (fun _ => br_t rfl nx))) (fun _ => br_t rfl nx)
theorem yi_fc (W : hp_W n c K L R) (hp : p / 16 < c) (hq : q ≤ p) (hv : hp_V n (q % 16)) (hS : hp_S K L R Yc p q) (hl : ∀ q', q' < q → hp_V n (q' % 16) → ¬ hp_S K L R Yc p q') (h : post (nI q)) :
    wpY_findCanon post (nI n, fT, fP, fc, fe, fr, fs, fp, fk, K, L, R, Ym, E, r0, r1, rc, F, Yc, Yk) (nI (p / 16)) (nI (p % 16)) := by
  have e : nI (p / 16) * 16 + nI (p % 16) = nI p := by
    rw [ha_16, nI_add]
    exact congrArg nI (by omega)
  exact nm_r e ⟨_, yi_fc10 W hp hq hv hS hl h q 0 (by omega)⟩
end HYR
section HYF
variable {fN fT fP fc fe fr fs fp fk : Int32} {K L R Ym E r0 r1 rc F Yc Yk : Nat → Int32} {A M : Nat → Int32} {post : SY → Prop} {n c : Nat}
theorem yi_r58 (W : hp_W n c K L R) (hM : hp_M c K L R M) (hMt : ∀ h, 16 ≤ h → M h = 0) (hYm : ∀ h, 16 ≤ h → Ym h = 0) (h : post (nI n, fT, fP, nI c, fe, fr, fs, fp, fk, K, L, R, M, E, r0, r1, rc, F, Yc, Yk)) :
    ∃ f, wY_refresh_58 post (nI n) fT fP (nI c) fe fr fs fp fk f 0 K L R Ym E r0 r1 rc F Yc Yk := by
  have w := W.2.2.1
  refine pk_loop (fun f i s => wY_refresh_58 post (nI n) fT fP (nI c) fe fr fs fp fk f (nI i) K L R s E r0 r1 rc F Yc Yk) (fun i s => (∀ x, x < i → s x = M x) ∧ ∀ x, 16 ≤ x → s x = 0) 16 0 Ym (by omega) ⟨fun x hx => absurd hx (Nat.not_lt_zero x), hYm⟩ ?_ ?_
  · intro f s hs
    have e : s = M := funext fun x => by
      by_cases hx : x < 16
      · exact hs.1 x hx
      · rw [hs.2 x (by omega), hMt x (by omega)]
    subst e
    exact br_t (nI_le (a := 16) (b := 16) (by omega) (by decide)) h
  · intro f i s hi hs nx
    have hin : vp_in (nI i) 16 := vp_in_nI hi (by decide)
    have ec : (nI i).toNatClampNeg = i := nI_clamp (by omega)
    have hv : hp_mv c K L R s i = M i := by
      rw [hM i hi]
      exact hm_c W Iff.rfl (fun _ => ⟨rfl, rfl, rfl⟩) (fun x hx => hs.1 x hx)
    have go : ∀ v, v = hp_mv c K L R s i → (vp_in (nI i) 16 ∧ ∀ a, a = upd s (nI i).toNatClampNeg v → ∀ x, x = nI i + 1 → wY_refresh_58 post (nI n) fT fP (nI c) fe fr fs fp fk f x K L R a E r0 r1 rc F Yc Yk) := fun v ev => by
      refine ⟨hin, nm_r (e' := upd s i (M i)) (by rw [ec, ev, hv]) (nm_r (nI_1 i) (nx _ ⟨fun x hx => ?_, fun x hx => ?_⟩))⟩
      · by_cases e : x = i
        · subst e
          exact pk_us
        · rw [pk_un e]
          exact hs.1 x (by omega)
      · rw [pk_un (by omega)]
        exact hs.2 x hx
    refine br_f (nI_ge (b := 16) hi (by decide)) ?_
    by_cases hc : c ≤ i
    · exact br_t (nI_le hc (by omega)) (go 0 (if_pos (Or.inl hc)).symm)
    · refine br_f (nI_ge (by omega) (by omega)) ⟨hin, ?_⟩
      by_cases k0 : K i = 0
      · refine br_t (by rw [ec]; exact k0) (go 0 (if_pos (Or.inr k0)).symm)
      · have e0 : ¬ (c ≤ i ∨ K i = 0) := fun z => z.elim hc k0
        refine br_f (by rw [ec]; exact k0) ⟨hin, ?_⟩
        by_cases k1 : K i = 1
        · refine br_t (by rw [ec]; exact k1) ⟨hin, ?_⟩
          by_cases l0 : L i = 0
          · refine br_t (by rw [ec]; exact l0) (go 1 ?_)
            unfold hp_mv
            rw [if_neg e0, if_pos k1, if_pos l0]
          · refine br_f (by rw [ec]; exact l0) (go 2 ?_)
            unfold hp_mv
            rw [if_neg e0, if_pos k1, if_neg l0]
        · obtain ⟨_, ⟨l, hl, el⟩, h5⟩ := hw_na (fun z => z.elim k0 k1) W (by omega : i < c)
          have a1 : L (nI i).toNatClampNeg &&& 15 = nI l := by
            rw [ec, el, ha_a15 (by omega), Nat.mod_eq_of_lt (by omega)]
          refine br_f (by rw [ec]; exact k1) ⟨hin, ?_⟩
          by_cases k5 : K i = 5
          · refine br_t (by rw [ec]; exact k5) ⟨hin, by rw [a1]; exact vp_in_nI (by omega) (by decide), go _ ?_⟩
            unfold hp_mv
            rw [if_neg e0, if_neg k1, if_pos k5, a1, el]
          · refine br_f (by rw [ec]; exact k5) ⟨hin, by rw [a1]; exact vp_in_nI (by omega) (by decide), hin, ?_⟩
            rcases h5 with h5 | ⟨_, r, hr, er⟩
            · exact absurd h5.1 k5
            · have a2 : R (nI i).toNatClampNeg &&& 15 = nI r := by
                rw [ec, er, ha_a15 (by omega), Nat.mod_eq_of_lt (by omega)]
              refine ⟨by rw [a2]; exact vp_in_nI (by omega) (by decide), go _ ?_⟩
              unfold hp_mv
              rw [if_neg e0, if_neg k1, if_neg k5, a1, a2, el, er]
theorem yi_ref (W : hp_W n c K L R) (C : hp_C n c K L R A) (hA : ∀ p, 256 ≤ p → A p = 0) (hM : hp_M c K L R M) (hMt : ∀ h, 16 ≤ h → M h = 0) (hYc : ∀ p, 256 ≤ p → Yc p = 0) (hYm : ∀ h, 16 ≤ h → Ym h = 0) (h : post (nI n, fT, fP, nI c, fe, fr, fs, fp, fk, K, L, R, M, E, r0, r1, rc, F, A, Yk)) :
    wpY_refresh post (nI n, fT, fP, nI c, fe, fr, fs, fp, fk, K, L, R, Ym, E, r0, r1, rc, F, Yc, Yk) := by
  have w := W.2.2.1
  refine pk_loop (fun f i s => wY_refresh_2 post (nI n) fT fP (nI c) fe fr fs fp fk f (nI i) K L R Ym E r0 r1 rc F s Yk) (fun i s => (∀ x, x < i → s x = A x) ∧ ∀ x, 256 ≤ x → s x = 0) 256 0 Yc (by omega) ⟨fun x hx => absurd hx (Nat.not_lt_zero x), hYc⟩ ?_ ?_
  · intro f s hs
    have e : s = A := funext fun x => by
      by_cases hx : x < 256
      · exact hs.1 x hx
      · rw [hs.2 x (by omega), hA x (by omega)]
    subst e
    exact br_t (nI_le (a := 256) (b := 256) (by omega) (by decide)) (yi_r58 W hM hMt hYm h)
  · intro f i s hi hs nx
    have hin : vp_in (nI i) 256 := vp_in_nI hi (by decide)
    have ec : (nI i).toNatClampNeg = i := nI_clamp (by omega)
    have go : ∀ v, v = A i → (vp_in (nI i) 256 ∧ ∀ a, a = upd s (nI i).toNatClampNeg v → ∀ x, x = nI i + 1 → wY_refresh_2 post (nI n) fT fP (nI c) fe fr fs fp fk f x K L R Ym E r0 r1 rc F a Yk) := fun v ev => by
      refine ⟨hin, nm_r (e' := upd s i (A i)) (by rw [ec, ev]) (nm_r (nI_1 i) (nx _ ⟨fun x hx => ?_, fun x hx => ?_⟩))⟩
      · by_cases e : x = i
        · subst e
          exact pk_us
        · rw [pk_un e]
          exact hs.1 x (by omega)
      · rw [pk_un (by omega)]
        exact hs.2 x hx
    refine br_f (nI_ge (b := 256) hi (by decide)) (nm_r (ha_s4 (by omega)) (nm_r (ha_a15 (by omega)) ?_))
    have hQ := C i hi
    by_cases hc : c ≤ i / 16
    · exact br_t (nI_le hc (by omega)) (go (-1) (hQ.2 (fun z => by have := z.1; omega)).symm)
    · refine br_f (nI_ge (by omega) (by omega)) (yi_vc W.2.1 (by omega) (fun v => br_f (by decide) ?_) (fun v => br_t rfl (go (-1) (hQ.2 (fun z => v z.2)).symm)))
      obtain ⟨q, q1, q2, q3, q4, q5⟩ := hQ.1 (by omega) v
      have e : ∀ h, h < c → K h = K h ∧ L h = L h ∧ R h = R h := fun h _ => ⟨rfl, rfl, rfl⟩
      refine yi_fc W (by omega) q1 q3 (hs_c W e (by omega) q1 (fun x hx => hs.1 x hx) q4) (fun q' g1 g2 g3 => q5 q' g1 g2 (hs_c W e (by omega) (by omega) (fun x hx => (hs.1 x hx).symm) g3)) (go _ q2.symm)
end HYF
