/-! the law: the calls that change the state -/
section LWC
variable {p n : Int} {N : Nat} {T : Nat → Nat → Nat → Int} {br : Nat → Int}
theorem nn_nm_z (p : Int) : ∀ N : Nat, nn_nm p N (fun _ => 0) = 0
  | 0 => rfl
  | N + 1 => by
    show (0 : Int) + p * nn_nm p N (fun _ => 0) = 0
    rw [nn_nm_z p N, Int.mul_zero, Int.zero_add]
theorem tt_ok0 (hp : nn_p p) (h1 : 1 ≤ N) (h2 : N ≤ 5) : tt_ok p N (fun _ _ _ => 0) := ⟨hp, h1, h2, fun _ _ _ => ⟨Int.le_refl 0, (nn_p_pos hp).1⟩, fun _ _ _ _ => rfl, fun _ _ _ => nn_eq_rfl p _, fun _ _ => rfl⟩
theorem tt_br0 (p : Int) (N : Nat) (f : Nat → Int) : tt_br p N (fun _ _ _ => 0) (fun q => if q < 25 then 0 else f q) := fun i j hi hj => by
  show (if 5 * i + j < 25 then 0 else f (5 * i + j)) = nn_nm p N (fun _ => 0)
  rw [if_pos (by omega), nn_nm_z]
theorem tt_br_cpy {f g : Nat → Int} (hb : tt_br p N T f) : tt_br p N T (va_cpy f g 0 0 25) := fun i j hi hj => by
  unfold va_cpy
  rw [if_pos (by omega), show 0 + (5 * i + j - 0) = 5 * i + j by omega]
  exact hb i j hi hj
theorem sb_T_ok (ht : tt_ok p N T) {I J : Nat} {v : Int} (hI : I < N) (hJ : J < N) (hne : I ≠ J) : tt_ok p N (sb_T p N T I J v) := by
  obtain ⟨hp, h1N, hN, hT, hz, ha, hd⟩ := id ht
  have hp1 := (nn_p_pos hp).1
  have hs : ∀ i j k, sb_T p N T I J v i j k = if i = I ∧ j = J then (if k < N then nn_dg p v k else 0) else if i = J ∧ j = I then (-(if k < N then nn_dg p v k else 0)) % p else T i j k := fun _ _ _ => rfl
  have hx : ∀ k, 0 ≤ (if k < N then nn_dg p v k else 0) ∧ (if k < N then nn_dg p v k else 0) < p := fun k => by
    split
    · exact nn_dg_rg hp1 k v
    · exact ⟨Int.le_refl 0, hp1⟩
  refine ⟨hp, h1N, hN, fun i j k => ?_, fun i j k h => ?_, fun i j k => ?_, fun i k => ?_⟩
  · rw [hs]
    split
    · exact hx k
    · split
      · exact ⟨Int.emod_nonneg _ (by omega), Int.emod_lt_of_pos _ hp1⟩
      · exact hT i j k
  · rw [hs]
    by_cases e1 : i = I ∧ j = J
    · rw [if_pos e1, if_neg (by omega)]
    · rw [if_neg e1]
      by_cases e2 : i = J ∧ j = I
      · rw [if_pos e2, if_neg (by omega), Int.neg_zero, Int.zero_emod]
      · rw [if_neg e2]
        exact hz i j k h
  · rw [hs, hs]
    by_cases e1 : i = I ∧ j = J
    · rw [if_pos e1, if_neg (show ¬ (j = I ∧ i = J) by omega), if_pos (show j = J ∧ i = I by omega)]
      exact nn_eq_mod p _
    · by_cases e2 : i = J ∧ j = I
      · rw [if_neg e1, if_pos e2, if_pos (show j = I ∧ i = J by omega)]
        have h9 := nn_eq_sub (nn_eq_rfl p 0) (nn_eq_mod p (-(if k < N then nn_dg p v k else 0)))
        rw [Int.zero_sub, Int.zero_sub, Int.neg_neg] at h9
        exact nn_eq_symm h9
      · rw [if_neg e1, if_neg e2, if_neg (show ¬ (j = I ∧ i = J) by omega), if_neg (show ¬ (j = J ∧ i = I) by omega)]
        exact ha i j k
  · rw [hs, if_neg (by omega), if_neg (by omega)]
    exact hd i k
theorem lw_push {k d l ml : Int} {D L : Nat} {ft f fs s h sl sv fm : Nat → Int} (ht : tt_ok p N T) (hb : tt_br p N T br) (hn : n = N) (hs : st_m p N T s) (hD : D ≤ 6) (hk : k = D) (hd : d = D) (hr : hr_ok D f h) (hsn : sn_ok fs sl sv) (hL : L ≤ 120) (hl : l = L) (hml : ml = L) (hf : ∀ q, q < 120 → 0 ≤ ft q ∧ ft q ≤ 255) (hfm : fm = ft) {p' n' : Int} {N' : Nat} {T' : Nat → Nat → Nat → Int} {br' s' h' : Nat → Int} (ht' : tt_ok p' N' T') (hb' : tt_br p' N' T' br') (hn' : n' = N') (hs' : st_m p' N' T' s') (hkp : kp_is D s h h') : lw_iv (if D = 6 then 6 else k + 1) p' n' br' l ft (hk_f D f p n br) fs (if D = 6 then 6 else d + 1) ml s' h' sl sv fm := by
  refine ⟨N', T', if D = 6 then 6 else D + 1, L, ht', hb', hn', hs', ?_, ?_, ?_, hr_push ht hb hn hs hD hr hkp, hsn, hL, hl, hml, hf, hfm⟩
  · split <;> omega
  · split <;> omega
  · split <;> omega
end LWC
section LWD
variable {X : pj_X} {Q : pj_Q} {i : Int} {k p n a1 a2 a3 b1 b2 b3 e1 e2 e3 g1 g2 g3 q1 q2 q3 d1 d2 l sq sg t1 t2 d ml mx me rk : Int} {br fW f1 f2 fr fq dr nf ng ft dt f fs s h sl sv on tw r ig gv sp ot re wh eq ma se pr gw li fh tb fm : Nat → Int}
theorem lw_q0 (hX : ∀ j, pj_rg (X.2 j)) (hi : 0 ≤ i ∧ i ≤ (X.1 : Int) - 4) (hXL : X.1 ≤ 2048) (hgo : lw_go X (i + 4) Q) (iv : lw_iv k p n br l ft f fs d ml s h sl sv fm) : pj_WP X m_Lw_law 168 [.inr 1002, .inr 0, .inr 28, .inl i] [] (wL k p n a1 a2 a3 b1 b2 b3 e1 e2 e3 g1 g2 g3 q1 q2 q3 d1 d2 l sq sg t1 t2 d ml mx me rk br fW f1 f2 fr fq dr nf ng ft dt f fs s h sl sv on tw r ig gv sp ot re wh eq ma se pr gw li fh tb fm) Q := by
  obtain ⟨N, T, D, L, ht, hb, hn, hs, hD, hk, hd, hr, hsn, hL, hl, hml, hf, hfm⟩ := id iv
  obtain ⟨hp, h1N, hN, hT, -⟩ := id ht
  have hp3 := nn_p_pos hp
  refine wp_c rfl (by omega) [0, 1, 2, 24, 25] (l_configure hp hN hn hk hD (hX (i + 1).toNat) (hX (i + 2).toNat) (fun c0 => ?_) (fun M m1 m2 m3 m4 => ?_)) rfl rfl rfl rfl
  · refine wp_h (wL k p n a1 a2 a3 b1 b2 b3 e1 e2 e3 g1 g2 g3 q1 q2 q3 d1 d2 l sq sg t1 t2 d ml mx me rk br fW f1 f2 fr fq dr nf ng ft dt f fs s h sl sv on tw r ig gv sp ot re wh eq ma se pr gw li fh tb fm) rfl ?_
    refine wp_c rfl (by omega) [28, 29, 30] (d_configure hd hD (hX (i + 1).toNat) (hX (i + 2).toNat) (fun _ => ?_) (fun M s' h' m1 m2 m3 m4 m5 m6 => absurd ⟨m1, by omega, by omega⟩ c0)) rfl rfl rfl rfl
    refine wp_h (wL k p n a1 a2 a3 b1 b2 b3 e1 e2 e3 g1 g2 g3 q1 q2 q3 d1 d2 l sq sg t1 t2 d ml mx me rk br fW f1 f2 fr fq dr nf ng ft dt f fs s h sl sv on tw r ig gv sp ot re wh eq ma se pr gw li fh tb fm) rfl ?_
    refine wp_b rfl (by omega) (fun _ => ?_) (fun c => absurd rfl c)
    refine wp_g rfl (by omega) ?_
    refine hgo _ _ _ _ _ _ _ _ _ _ _ _ _ _ _ _ _ _ _ _ _ _ _ _ _ _ _ _ _ _ _ _ _ _ _ _ _ _ _ _ _ _ _ _ _ _ _ _ _ _ _ _ _ _ _ _ _ _ _ _ _ _ _ _ _ iv
  · refine wp_h (wL (if D = 6 then 6 else k + 1) (X.2 (i + 1).toNat) (X.2 (i + 2).toNat) a1 a2 a3 b1 b2 b3 e1 e2 e3 g1 g2 g3 q1 q2 q3 d1 d2 l sq sg t1 t2 d ml mx me rk (fun q => if q < 25 then 0 else br q) fW f1 f2 fr fq dr nf ng ft dt (hk_f D f p n br) fs s h sl sv on tw r ig gv sp ot re wh eq ma se pr gw li fh tb fm) rfl ?_
    refine wp_c rfl (by omega) [28, 29, 30] (d_configure hd hD (hX (i + 1).toNat) (hX (i + 2).toNat) (fun c1 => absurd ⟨m1, by omega, by omega⟩ c1) (fun M' s' h' m1' m2' m3' m4' hkp hst => ?_)) rfl rfl rfl rfl
    refine wp_h (wL (if D = 6 then 6 else k + 1) (X.2 (i + 1).toNat) (X.2 (i + 2).toNat) a1 a2 a3 b1 b2 b3 e1 e2 e3 g1 g2 g3 q1 q2 q3 d1 d2 l sq sg t1 t2 (if D = 6 then 6 else d + 1) ml mx me rk (fun q => if q < 25 then 0 else br q) fW f1 f2 fr fq dr nf ng ft dt (hk_f D f p n br) fs s' h' sl sv on tw r ig gv sp ot re wh eq ma se pr gw li fh tb fm) rfl ?_
    obtain rfl : M = M' := by omega
    have r1 := or_pw m1 m4
    refine wp_b rfl (by omega) (fun _ => ?_) (fun c => absurd rfl c)
    refine wp_g rfl (by omega) ?_
    refine hgo _ _ _ _ _ _ _ _ _ _ _ _ _ _ _ _ _ _ _ _ _ _ _ _ _ _ _ _ _ _ _ _ _ _ _ _ _ _ _ _ _ _ _ _ _ _ _ _ _ _ _ _ _ _ _ _ _ _ _ _ _ _ _ _ _ (lw_push ht hb hn hs hD hk hd hr hsn hL hl hml hf hfm (tt_ok0 m1 m3 m4) (tt_br0 _ _ _) m2 hst hkp)
theorem lw_q1 (hX : ∀ j, pj_rg (X.2 j)) (hi : 0 ≤ i ∧ i ≤ (X.1 : Int) - 4) (hXL : X.1 ≤ 2048) (hgo : lw_go X (i + 4) Q) (iv : lw_iv k p n br l ft f fs d ml s h sl sv fm) : pj_WP X m_Lw_law 201 [.inr 1002, .inr 0, .inr 28, .inl i] [] (wL k p n a1 a2 a3 b1 b2 b3 e1 e2 e3 g1 g2 g3 q1 q2 q3 d1 d2 l sq sg t1 t2 d ml mx me rk br fW f1 f2 fr fq dr nf ng ft dt f fs s h sl sv on tw r ig gv sp ot re wh eq ma se pr gw li fh tb fm) Q := by
  obtain ⟨N, T, D, L, ht, hb, hn, hs, hD, hk, hd, hr, hsn, hL, hl, hml, hf, hfm⟩ := id iv
  obtain ⟨hp, h1N, hN, hT, -⟩ := id ht
  have hp3 := nn_p_pos hp
  refine wp_c rfl (by omega) [0, 1, 2, 24, 25] (l_setBracket ht hb hn hk hD (hX (i + 1).toNat) (hX (i + 2).toNat) (hX (i + 3).toNat) (fun c0 => ?_) (fun I J br' m1 m2 m3 m4 m5 m6 m7 hbr => ?_)) rfl rfl rfl rfl
  · refine wp_h (wL k p n a1 a2 a3 b1 b2 b3 e1 e2 e3 g1 g2 g3 q1 q2 q3 d1 d2 l sq sg t1 t2 d ml mx me rk br fW f1 f2 fr fq dr nf ng ft dt f fs s h sl sv on tw r ig gv sp ot re wh eq ma se pr gw li fh tb fm) rfl ?_
    refine wp_c rfl (by omega) [28, 29, 30, 34] (d_setBracket ht hs hd hD (hX (i + 1).toNat) (hX (i + 2).toNat) (hX (i + 3).toNat) (fun _ => ?_) (fun I J s' h' on m1 m2 m3 m4 m5 m6 m7 hkp hst => absurd ⟨⟨by omega, by omega⟩, ⟨by omega, by omega⟩, by omega, m6, m7⟩ c0)) rfl rfl rfl rfl
    refine wp_h (wL k p n a1 a2 a3 b1 b2 b3 e1 e2 e3 g1 g2 g3 q1 q2 q3 d1 d2 l sq sg t1 t2 d ml mx me rk br fW f1 f2 fr fq dr nf ng ft dt f fs s h sl sv on tw r ig gv sp ot re wh eq ma se pr gw li fh tb fm) rfl ?_
    refine wp_b rfl (by omega) (fun _ => ?_) (fun c => absurd rfl c)
    refine wp_g rfl (by omega) ?_
    refine hgo _ _ _ _ _ _ _ _ _ _ _ _ _ _ _ _ _ _ _ _ _ _ _ _ _ _ _ _ _ _ _ _ _ _ _ _ _ _ _ _ _ _ _ _ _ _ _ _ _ _ _ _ _ _ _ _ _ _ _ _ _ _ _ _ _ iv
  · refine wp_h (wL (if D = 6 then 6 else k + 1) p n a1 a2 a3 b1 b2 b3 e1 e2 e3 g1 g2 g3 q1 q2 q3 d1 d2 l sq sg t1 t2 d ml mx me rk br' fW f1 f2 fr fq dr nf ng ft dt (hk_f D f p n br) fs s h sl sv on tw r ig gv sp ot re wh eq ma se pr gw li fh tb fm) rfl ?_
    refine wp_c rfl (by omega) [28, 29, 30, 34] (d_setBracket ht hs hd hD (hX (i + 1).toNat) (hX (i + 2).toNat) (hX (i + 3).toNat) (fun c0 => absurd ⟨⟨by omega, by omega⟩, ⟨by omega, by omega⟩, by omega, m6, m7⟩ c0) (fun I' J' s' h' on m1' m2' m3' m4' m5' m6' m7' hkp hst => ?_)) rfl rfl rfl rfl
    refine wp_h (wL (if D = 6 then 6 else k + 1) p n a1 a2 a3 b1 b2 b3 e1 e2 e3 g1 g2 g3 q1 q2 q3 d1 d2 l sq sg t1 t2 (if D = 6 then 6 else d + 1) ml mx me rk br' fW f1 f2 fr fq dr nf ng ft dt (hk_f D f p n br) fs s' h' sl sv on tw r ig gv sp ot re wh eq ma se pr gw li fh tb fm) rfl ?_
    obtain rfl : I = I' := by omega
    obtain rfl : J = J' := by omega
    have r1 := or_nm (f := T I J) hp hN (fun c _ => hT I J c)
    refine wp_b rfl (by omega) (fun _ => ?_) (fun c => absurd rfl c)
    refine wp_g rfl (by omega) ?_
    refine hgo _ _ _ _ _ _ _ _ _ _ _ _ _ _ _ _ _ _ _ _ _ _ _ _ _ _ _ _ _ _ _ _ _ _ _ _ _ _ _ _ _ _ _ _ _ _ _ _ _ _ _ _ _ _ _ _ _ _ _ _ _ _ _ _ _ (lw_push ht hb hn hs hD hk hd hr hsn hL hl hml hf hfm (sb_T_ok ht m3 m4 m5) hbr hn hst hkp)
theorem lw_q2 (hX : ∀ j, pj_rg (X.2 j)) (hi : 0 ≤ i ∧ i ≤ (X.1 : Int) - 4) (hXL : X.1 ≤ 2048) (hgo : lw_go X (i + 4) Q) (iv : lw_iv k p n br l ft f fs d ml s h sl sv fm) : pj_WP X m_Lw_law 244 [.inr 1002, .inr 0, .inr 28, .inl i] [] (wL k p n a1 a2 a3 b1 b2 b3 e1 e2 e3 g1 g2 g3 q1 q2 q3 d1 d2 l sq sg t1 t2 d ml mx me rk br fW f1 f2 fr fq dr nf ng ft dt f fs s h sl sv on tw r ig gv sp ot re wh eq ma se pr gw li fh tb fm) Q := by
  obtain ⟨N, T, D, L, ht, hb, hn, hs, hD, hk, hd, hr, hsn, hL, hl, hml, hf, hfm⟩ := id iv
  obtain ⟨hp, h1N, hN, hT, -⟩ := id ht
  have hp3 := nn_p_pos hp
  refine wp_c rfl (by omega) [0, 20, 21] (l_append hl hL (hX (i + 1).toNat) (fun c0 => ?_) (fun c0 c1 => ?_) (fun c0 c1 => ?_)) rfl rfl rfl rfl
  · refine wp_h (wL k p n a1 a2 a3 b1 b2 b3 e1 e2 e3 g1 g2 g3 q1 q2 q3 d1 d2 l sq sg t1 t2 d ml mx me rk br fW f1 f2 fr fq dr nf ng ft dt f fs s h sl sv on tw r ig gv sp ot re wh eq ma se pr gw li fh tb fm) rfl ?_
    refine wp_c rfl (by omega) [28, 33] (d_append hml hL (hX (i + 1).toNat) (fun _ => ?_) (fun q _ => absurd q c0) (fun q _ => absurd q c0)) rfl rfl rfl rfl
    refine wp_h (wL k p n a1 a2 a3 b1 b2 b3 e1 e2 e3 g1 g2 g3 q1 q2 q3 d1 d2 l sq sg t1 t2 d ml mx me rk br fW f1 f2 fr fq dr nf ng ft dt f fs s h sl sv on tw r ig gv sp ot re wh eq ma se pr gw li fh tb fm) rfl ?_
    refine wp_b rfl (by omega) (fun _ => ?_) (fun c => absurd rfl c)
    refine wp_g rfl (by omega) ?_
    refine hgo _ _ _ _ _ _ _ _ _ _ _ _ _ _ _ _ _ _ _ _ _ _ _ _ _ _ _ _ _ _ _ _ _ _ _ _ _ _ _ _ _ _ _ _ _ _ _ _ _ _ _ _ _ _ _ _ _ _ _ _ _ _ _ _ _ iv
  · refine wp_h (wL k p n a1 a2 a3 b1 b2 b3 e1 e2 e3 g1 g2 g3 q1 q2 q3 d1 d2 l sq sg t1 t2 d ml mx me rk br fW f1 f2 fr fq dr nf ng ft dt f fs s h sl sv on tw r ig gv sp ot re wh eq ma se pr gw li fh tb fm) rfl ?_
    refine wp_c rfl (by omega) [28, 33] (d_append hml hL (hX (i + 1).toNat) (fun q => absurd c0 q) (fun _ _ => ?_) (fun _ q => absurd q (by omega))) rfl rfl rfl rfl
    refine wp_h (wL k p n a1 a2 a3 b1 b2 b3 e1 e2 e3 g1 g2 g3 q1 q2 q3 d1 d2 l sq sg t1 t2 d ml mx me rk br fW f1 f2 fr fq dr nf ng ft dt f fs s h sl sv on tw r ig gv sp ot re wh eq ma se pr gw li fh tb fm) rfl ?_
    refine wp_b rfl (by omega) (fun _ => ?_) (fun c => absurd rfl c)
    refine wp_g rfl (by omega) ?_
    refine hgo _ _ _ _ _ _ _ _ _ _ _ _ _ _ _ _ _ _ _ _ _ _ _ _ _ _ _ _ _ _ _ _ _ _ _ _ _ _ _ _ _ _ _ _ _ _ _ _ _ _ _ _ _ _ _ _ _ _ _ _ _ _ _ _ _ iv
  · refine wp_h (wL k p n a1 a2 a3 b1 b2 b3 e1 e2 e3 g1 g2 g3 q1 q2 q3 d1 d2 (l + 1) sq sg t1 t2 d ml mx me rk br fW f1 f2 fr fq dr nf ng (pj_up ft L (X.2 (i + 1).toNat)) dt f fs s h sl sv on tw r ig gv sp ot re wh eq ma se pr gw li fh tb fm) rfl ?_
    refine wp_c rfl (by omega) [28, 33] (d_append hml hL (hX (i + 1).toNat) (fun q => absurd c0 q) (fun _ q => absurd q (by omega)) (fun _ _ => ?_)) rfl rfl rfl rfl
    refine wp_h (wL k p n a1 a2 a3 b1 b2 b3 e1 e2 e3 g1 g2 g3 q1 q2 q3 d1 d2 (l + 1) sq sg t1 t2 d (ml + 1) mx me rk br fW f1 f2 fr fq dr nf ng (pj_up ft L (X.2 (i + 1).toNat)) dt f fs s h sl sv on tw r ig gv sp ot re wh eq ma se pr gw li fh tb (pj_up fm L (X.2 (i + 1).toNat))) rfl ?_
    refine wp_b rfl (by omega) (fun _ => ?_) (fun c => absurd (by omega) c)
    refine wp_g rfl (by omega) ?_
    refine hgo _ _ _ _ _ _ _ _ _ _ _ _ _ _ _ _ _ _ _ _ _ _ _ _ _ _ _ _ _ _ _ _ _ _ _ _ _ _ _ _ _ _ _ _ _ _ _ _ _ _ _ _ _ _ _ _ _ _ _ _ _ _ _ _ _ ⟨N, T, D, L + 1, ht, hb, hn, hs, hD, hk, hd, hr, hsn, by omega, by omega, by omega, fun q hq => ?_, by rw [hfm]⟩
    unfold pj_up
    split
    · exact c0
    · exact hf q hq
theorem lw_q3 (hX : ∀ j, pj_rg (X.2 j)) (hi : 0 ≤ i ∧ i ≤ (X.1 : Int) - 4) (hXL : X.1 ≤ 2048) (hgo : lw_go X (i + 4) Q) (iv : lw_iv k p n br l ft f fs d ml s h sl sv fm) : pj_WP X m_Lw_law 267 [.inr 1002, .inr 0, .inr 28, .inl i] [] (wL k p n a1 a2 a3 b1 b2 b3 e1 e2 e3 g1 g2 g3 q1 q2 q3 d1 d2 l sq sg t1 t2 d ml mx me rk br fW f1 f2 fr fq dr nf ng ft dt f fs s h sl sv on tw r ig gv sp ot re wh eq ma se pr gw li fh tb fm) Q := by
  obtain ⟨N, T, D, L, ht, hb, hn, hs, hD, hk, hd, hr, hsn, hL, hl, hml, hf, hfm⟩ := id iv
  obtain ⟨hp, h1N, hN, hT, -⟩ := id ht
  have hp3 := nn_p_pos hp
  refine wp_c rfl (by omega) [0, 20, 21] (l_clearText ?_) rfl rfl rfl rfl
  refine wp_h (wL k p n a1 a2 a3 b1 b2 b3 e1 e2 e3 g1 g2 g3 q1 q2 q3 d1 d2 0 sq sg t1 t2 d ml mx me rk br fW f1 f2 fr fq dr nf ng ft dt f fs s h sl sv on tw r ig gv sp ot re wh eq ma se pr gw li fh tb fm) rfl ?_
  refine wp_c rfl (by omega) [28, 33] (d_clearText ?_) rfl rfl rfl rfl
  refine wp_h (wL k p n a1 a2 a3 b1 b2 b3 e1 e2 e3 g1 g2 g3 q1 q2 q3 d1 d2 0 sq sg t1 t2 d 0 mx me rk br fW f1 f2 fr fq dr nf ng ft dt f fs s h sl sv on tw r ig gv sp ot re wh eq ma se pr gw li fh tb fm) rfl ?_
  refine wp_b rfl (by omega) (fun _ => ?_) (fun c => absurd (by omega) c)
  refine wp_g rfl (by omega) ?_
  refine hgo _ _ _ _ _ _ _ _ _ _ _ _ _ _ _ _ _ _ _ _ _ _ _ _ _ _ _ _ _ _ _ _ _ _ _ _ _ _ _ _ _ _ _ _ _ _ _ _ _ _ _ _ _ _ _ _ _ _ _ _ _ _ _ _ _ ⟨N, T, D, 0, ht, hb, hn, hs, hD, hk, hd, hr, hsn, by omega, rfl, rfl, hf, hfm⟩
theorem lw_q4 (hX : ∀ j, pj_rg (X.2 j)) (hi : 0 ≤ i ∧ i ≤ (X.1 : Int) - 4) (hXL : X.1 ≤ 2048) (hgo : lw_go X (i + 4) Q) (iv : lw_iv k p n br l ft f fs d ml s h sl sv fm) : pj_WP X m_Lw_law 280 [.inr 1002, .inr 0, .inr 28, .inl i] [] (wL k p n a1 a2 a3 b1 b2 b3 e1 e2 e3 g1 g2 g3 q1 q2 q3 d1 d2 l sq sg t1 t2 d ml mx me rk br fW f1 f2 fr fq dr nf ng ft dt f fs s h sl sv on tw r ig gv sp ot re wh eq ma se pr gw li fh tb fm) Q := by
  obtain ⟨N, T, D, L, ht, hb, hn, hs, hD, hk, hd, hr, hsn, hL, hl, hml, hf, hfm⟩ := id iv
  obtain ⟨hp, h1N, hN, hT, -⟩ := id ht
  have hp3 := nn_p_pos hp
  obtain rfl := hfm
  refine wp_c rfl (by omega) [0, 1, 2, 24, 25, 20, 21, 22, 23] (l_loadText ht hn hk hD hf hL hl (fun sq sg D1 dt e1' c0 => ?_) (fun sq sg D1 dt e1' c0 => ?_)) rfl rfl rfl rfl
  · refine wp_h (wL k p n a1 a2 a3 b1 b2 b3 e1 e2 e3 g1 g2 g3 q1 q2 q3 d1 d2 l sq sg p n d ml mx me rk br fW f1 f2 fr fq dr nf ng fm dt f fs s h sl sv on tw r ig gv sp ot re wh eq ma se pr gw li fh tb fm) rfl ?_
    have hD1 : tt_br p N T D1 := by
      rw [e1']
      exact tt_br_cpy hb
    have r1 := rd_l_rg (f := fm) hp hN 120 0 0 D1 0 (by omega : 0 ≤ L) (by omega)
    refine wp_c rfl (by omega) [28, 29, 30, 33, 37, 38] (d_loadText ht hs hf hL hml hd hD hD1 (fun TT s' h' ig gv mx me q _ _ _ _ => absurd q (by omega)) (fun ig gv mx me q => ?_)) rfl rfl rfl rfl
    refine wp_h (wL k p n a1 a2 a3 b1 b2 b3 e1 e2 e3 g1 g2 g3 q1 q2 q3 d1 d2 l sq sg p n d ml mx me rk br fW f1 f2 fr fq dr nf ng fm dt f fs s h sl sv on tw r ig gv sp ot re wh eq ma se pr gw li fh tb fm) rfl ?_
    refine wp_b rfl (by omega) (fun _ => ?_) (fun c => absurd rfl c)
    refine wp_g rfl (by omega) ?_
    refine hgo _ _ _ _ _ _ _ _ _ _ _ _ _ _ _ _ _ _ _ _ _ _ _ _ _ _ _ _ _ _ _ _ _ _ _ _ _ _ _ _ _ _ _ _ _ _ _ _ _ _ _ _ _ _ _ _ _ _ _ _ _ _ _ _ _ iv
  · refine wp_h (wL (if D = 6 then 6 else k + 1) p n a1 a2 a3 b1 b2 b3 e1 e2 e3 g1 g2 g3 q1 q2 q3 d1 d2 0 sq sg p n d ml mx me rk (va_cpy (rd_l fm L p N 120 0 0 D1 0).2 br 0 0 25) fW f1 f2 fr fq dr nf ng fm dt (hk_f D f p n br) fs s h sl sv on tw r ig gv sp ot re wh eq ma se pr gw li fh tb fm) rfl ?_
    have hD1 : tt_br p N T D1 := by
      rw [e1']
      exact tt_br_cpy hb
    have r1 := rd_l_rg (f := fm) hp hN 120 0 0 D1 0 (by omega : 0 ≤ L) (by omega)
    refine wp_c rfl (by omega) [28, 29, 30, 33, 37, 38] (d_loadText ht hs hf hL hml hd hD hD1 (fun TT s' h' ig gv mx me q u1 u2 u3 u4 => ?_) (fun ig gv mx me q => absurd q (by omega))) rfl rfl rfl rfl
    refine wp_h (wL (if D = 6 then 6 else k + 1) p n a1 a2 a3 b1 b2 b3 e1 e2 e3 g1 g2 g3 q1 q2 q3 d1 d2 0 sq sg p n (if D = 6 then 6 else d + 1) 0 mx me rk (va_cpy (rd_l fm L p N 120 0 0 D1 0).2 br 0 0 25) fW f1 f2 fr fq dr nf ng fm dt (hk_f D f p n br) fs s' h' sl sv on tw r ig gv sp ot re wh eq ma se pr gw li fh tb fm) rfl ?_
    refine wp_b rfl (by omega) (fun _ => ?_) (fun c => absurd rfl c)
    refine wp_g rfl (by omega) ?_
    refine hgo _ _ _ _ _ _ _ _ _ _ _ _ _ _ _ _ _ _ _ _ _ _ _ _ _ _ _ _ _ _ _ _ _ _ _ _ _ _ _ _ _ _ _ _ _ _ _ _ _ _ _ _ _ _ _ _ _ _ _ _ _ _ _ _ _ (lw_push (L := 0) ht hb hn hs hD hk hd hr hsn (by omega) rfl rfl hf rfl u1 (tt_br_cpy u2) hn u3 u4)
theorem lw_q24 (hX : ∀ j, pj_rg (X.2 j)) (hi : 0 ≤ i ∧ i ≤ (X.1 : Int) - 4) (hXL : X.1 ≤ 2048) (hgo : lw_go X (i + 4) Q) (iv : lw_iv k p n br l ft f fs d ml s h sl sv fm) : pj_WP X m_Lw_law 740 [.inr 1002, .inr 0, .inr 28, .inl i] [] (wL k p n a1 a2 a3 b1 b2 b3 e1 e2 e3 g1 g2 g3 q1 q2 q3 d1 d2 l sq sg t1 t2 d ml mx me rk br fW f1 f2 fr fq dr nf ng ft dt f fs s h sl sv on tw r ig gv sp ot re wh eq ma se pr gw li fh tb fm) Q := by
  obtain ⟨N, T, D, L, ht, hb, hn, hs, hD, hk, hd, hr, hsn, hL, hl, hml, hf, hfm⟩ := id iv
  obtain ⟨hp, h1N, hN, hT, -⟩ := id ht
  have hp3 := nn_p_pos hp
  refine wp_c rfl (by omega) [0, 1, 2, 24, 25, 15, 16, 17, 18, 19] (l_addBasis ht hb hn hk hD (hX (i + 1).toNat) (hX (i + 2).toNat) (hX (i + 3).toNat) (fun c0 => ?_) (fun I J br' dr nf ng m1 m2 m3 m4 m5 m6 m7 hbr => ?_)) rfl rfl rfl rfl
  · refine wp_h (wL k p n a1 a2 a3 b1 b2 b3 e1 e2 e3 g1 g2 g3 q1 q2 q3 d1 d2 l sq sg t1 t2 d ml mx me rk br fW f1 f2 fr fq dr nf ng ft dt f fs s h sl sv on tw r ig gv sp ot re wh eq ma se pr gw li fh tb fm) rfl ?_
    refine wp_c rfl (by omega) [28, 29, 30, 36, 49, 50] (d_addBasis ht hs hd hD (hX (i + 1).toNat) (hX (i + 2).toNat) (hX (i + 3).toNat) (fun _ => ?_) (fun I J s' h' r fh tb m1 m2 m3 m4 m5 m6 m7 hkp hst => absurd ⟨⟨by omega, by omega⟩, ⟨by omega, by omega⟩, by omega, m6, m7⟩ c0)) rfl rfl rfl rfl
    refine wp_h (wL k p n a1 a2 a3 b1 b2 b3 e1 e2 e3 g1 g2 g3 q1 q2 q3 d1 d2 l sq sg t1 t2 d ml mx me rk br fW f1 f2 fr fq dr nf ng ft dt f fs s h sl sv on tw r ig gv sp ot re wh eq ma se pr gw li fh tb fm) rfl ?_
    refine wp_b rfl (by omega) (fun _ => ?_) (fun c => absurd rfl c)
    refine wp_g rfl (by omega) ?_
    refine hgo _ _ _ _ _ _ _ _ _ _ _ _ _ _ _ _ _ _ _ _ _ _ _ _ _ _ _ _ _ _ _ _ _ _ _ _ _ _ _ _ _ _ _ _ _ _ _ _ _ _ _ _ _ _ _ _ _ _ _ _ _ _ _ _ _ iv
  · refine wp_h (wL (if D = 6 then 6 else k + 1) p n a1 a2 a3 b1 b2 b3 e1 e2 e3 g1 g2 g3 q1 q2 q3 p n l sq sg t1 t2 d ml mx me rk br' fW f1 f2 fr fq dr nf ng ft dt (hk_f D f p n br) fs s h sl sv on tw r ig gv sp ot re wh eq ma se pr gw li fh tb fm) rfl ?_
    refine wp_c rfl (by omega) [28, 29, 30, 36, 49, 50] (d_addBasis ht hs hd hD (hX (i + 1).toNat) (hX (i + 2).toNat) (hX (i + 3).toNat) (fun c0 => absurd ⟨⟨by omega, by omega⟩, ⟨by omega, by omega⟩, by omega, m6, m7⟩ c0) (fun I' J' s' h' r fh tb m1' m2' m3' m4' m5' m6' m7' hkp hst => ?_)) rfl rfl rfl rfl
    refine wp_h (wL (if D = 6 then 6 else k + 1) p n a1 a2 a3 b1 b2 b3 e1 e2 e3 g1 g2 g3 q1 q2 q3 p n l sq sg t1 t2 (if D = 6 then 6 else d + 1) ml mx me rk br' fW f1 f2 fr fq dr nf ng ft dt (hk_f D f p n br) fs s' h' sl sv on tw r ig gv sp ot re wh eq ma se pr gw li fh tb fm) rfl ?_
    obtain rfl : I = I' := by omega
    obtain rfl : J = J' := by omega
    have htt := ch_ok ht (ch_u I (fun c => ln_e I c + X.2 (i + 3).toNat * ln_e J c)) (ch_u I (fun c => ln_e I c + (-(X.2 (i + 3).toNat)) * ln_e J c))
    have r1 := or_nm (f := ch_T p N T (ch_u I (fun c => ln_e I c + X.2 (i + 3).toNat * ln_e J c)) (ch_u I (fun c => ln_e I c + (-(X.2 (i + 3).toNat)) * ln_e J c)) I J) hp hN (fun c _ => htt.2.2.2.1 I J c)
    refine wp_b rfl (by omega) (fun _ => ?_) (fun c => absurd rfl c)
    refine wp_g rfl (by omega) ?_
    refine hgo _ _ _ _ _ _ _ _ _ _ _ _ _ _ _ _ _ _ _ _ _ _ _ _ _ _ _ _ _ _ _ _ _ _ _ _ _ _ _ _ _ _ _ _ _ _ _ _ _ _ _ _ _ _ _ _ _ _ _ _ _ _ _ _ _ (lw_push ht hb hn hs hD hk hd hr hsn hL hl hml hf hfm htt hbr hn hst hkp)
theorem lw_q25 (hX : ∀ j, pj_rg (X.2 j)) (hi : 0 ≤ i ∧ i ≤ (X.1 : Int) - 4) (hXL : X.1 ≤ 2048) (hgo : lw_go X (i + 4) Q) (iv : lw_iv k p n br l ft f fs d ml s h sl sv fm) : pj_WP X m_Lw_law 783 [.inr 1002, .inr 0, .inr 28, .inl i] [] (wL k p n a1 a2 a3 b1 b2 b3 e1 e2 e3 g1 g2 g3 q1 q2 q3 d1 d2 l sq sg t1 t2 d ml mx me rk br fW f1 f2 fr fq dr nf ng ft dt f fs s h sl sv on tw r ig gv sp ot re wh eq ma se pr gw li fh tb fm) Q := by
  obtain ⟨N, T, D, L, ht, hb, hn, hs, hD, hk, hd, hr, hsn, hL, hl, hml, hf, hfm⟩ := id iv
  obtain ⟨hp, h1N, hN, hT, -⟩ := id ht
  have hp3 := nn_p_pos hp
  refine wp_c rfl (by omega) [0, 1, 2, 24, 25, 15, 16, 17, 18, 19] (l_scaleBasis ht hb hn hk hD (hX (i + 1).toNat) (hX (i + 2).toNat) (fun c0 => ?_) (fun I y br' dr nf ng m1 m3 m6 m7 m8 m9 m10 hbr => ?_)) rfl rfl rfl rfl
  · refine wp_h (wL k p n a1 a2 a3 b1 b2 b3 e1 e2 e3 g1 g2 g3 q1 q2 q3 d1 d2 l sq sg t1 t2 d ml mx me rk br fW f1 f2 fr fq dr nf ng ft dt f fs s h sl sv on tw r ig gv sp ot re wh eq ma se pr gw li fh tb fm) rfl ?_
    refine wp_c rfl (by omega) [28, 29, 30, 36, 49, 50] (d_scaleBasis ht hs hd hD (hX (i + 1).toNat) (hX (i + 2).toNat) (fun _ => ?_) (fun I y s' h' r fh tb m1 m3 m6 m7 m8 m9 m10 hkp hst => absurd ⟨⟨by omega, by omega⟩, m6, m7⟩ c0)) rfl rfl rfl rfl
    refine wp_h (wL k p n a1 a2 a3 b1 b2 b3 e1 e2 e3 g1 g2 g3 q1 q2 q3 d1 d2 l sq sg t1 t2 d ml mx me rk br fW f1 f2 fr fq dr nf ng ft dt f fs s h sl sv on tw r ig gv sp ot re wh eq ma se pr gw li fh tb fm) rfl ?_
    refine wp_b rfl (by omega) (fun _ => ?_) (fun c => absurd rfl c)
    refine wp_g rfl (by omega) ?_
    refine hgo _ _ _ _ _ _ _ _ _ _ _ _ _ _ _ _ _ _ _ _ _ _ _ _ _ _ _ _ _ _ _ _ _ _ _ _ _ _ _ _ _ _ _ _ _ _ _ _ _ _ _ _ _ _ _ _ _ _ _ _ _ _ _ _ _ iv
  · refine wp_h (wL (if D = 6 then 6 else k + 1) p n a1 a2 a3 b1 b2 b3 e1 e2 e3 g1 g2 g3 q1 q2 q3 p n l sq sg t1 t2 d ml mx me rk br' fW f1 f2 fr fq dr nf ng ft dt (hk_f D f p n br) fs s h sl sv on tw r ig gv sp ot re wh eq ma se pr gw li fh tb fm) rfl ?_
    refine wp_c rfl (by omega) [28, 29, 30, 36, 49, 50] (d_scaleBasis ht hs hd hD (hX (i + 1).toNat) (hX (i + 2).toNat) (fun c0 => absurd ⟨⟨by omega, by omega⟩, m6, m7⟩ c0) (fun I' y' s' h' r fh tb m1' m3' m6' m7' m8' m9' m10' hkp hst => ?_)) rfl rfl rfl rfl
    refine wp_h (wL (if D = 6 then 6 else k + 1) p n a1 a2 a3 b1 b2 b3 e1 e2 e3 g1 g2 g3 q1 q2 q3 p n l sq sg t1 t2 (if D = 6 then 6 else d + 1) ml mx me rk br' fW f1 f2 fr fq dr nf ng ft dt (hk_f D f p n br) fs s' h' sl sv on tw r ig gv sp ot re wh eq ma se pr gw li fh tb fm) rfl ?_
    obtain rfl : I = I' := by omega
    obtain rfl : y = y' := inv_one2 hp m8 m9 m10 m8' m9' m10'
    have htt := ch_ok ht (ch_u I (fun c => X.2 (i + 2).toNat * ln_e I c)) (ch_u I (fun c => y * ln_e I c))
    have epc := pc_eq htt hst hbr
    have r1 := or_pc (p := p) (N := N) (s := s')
    rw [epc] at r1 ⊢
    refine wp_b rfl (by omega) (fun _ => ?_) (fun c => absurd rfl c)
    refine wp_g rfl (by omega) ?_
    refine hgo _ _ _ _ _ _ _ _ _ _ _ _ _ _ _ _ _ _ _ _ _ _ _ _ _ _ _ _ _ _ _ _ _ _ _ _ _ _ _ _ _ _ _ _ _ _ _ _ _ _ _ _ _ _ _ _ _ _ _ _ _ _ _ _ _ (lw_push ht hb hn hs hD hk hd hr hsn hL hl hml hf hfm htt hbr hn hst hkp)
theorem lw_q26 (hX : ∀ j, pj_rg (X.2 j)) (hi : 0 ≤ i ∧ i ≤ (X.1 : Int) - 4) (hXL : X.1 ≤ 2048) (hgo : lw_go X (i + 4) Q) (iv : lw_iv k p n br l ft f fs d ml s h sl sv fm) : pj_WP X m_Lw_law 816 [.inr 1002, .inr 0, .inr 28, .inl i] [] (wL k p n a1 a2 a3 b1 b2 b3 e1 e2 e3 g1 g2 g3 q1 q2 q3 d1 d2 l sq sg t1 t2 d ml mx me rk br fW f1 f2 fr fq dr nf ng ft dt f fs s h sl sv on tw r ig gv sp ot re wh eq ma se pr gw li fh tb fm) Q := by
  obtain ⟨N, T, D, L, ht, hb, hn, hs, hD, hk, hd, hr, hsn, hL, hl, hml, hf, hfm⟩ := id iv
  obtain ⟨hp, h1N, hN, hT, -⟩ := id ht
  have hp3 := nn_p_pos hp
  refine wp_c rfl (by omega) [0, 1, 2, 24, 25, 15, 16, 17, 18, 19] (l_swapBasis ht hb hn hk hD (hX (i + 1).toNat) (hX (i + 2).toNat) (fun c0 => ?_) (fun I J br' dr nf ng m1 m2 m3 m4 m5 hbr => ?_)) rfl rfl rfl rfl
  · refine wp_h (wL k p n a1 a2 a3 b1 b2 b3 e1 e2 e3 g1 g2 g3 q1 q2 q3 d1 d2 l sq sg t1 t2 d ml mx me rk br fW f1 f2 fr fq dr nf ng ft dt f fs s h sl sv on tw r ig gv sp ot re wh eq ma se pr gw li fh tb fm) rfl ?_
    refine wp_c rfl (by omega) [28, 29, 30, 36, 49, 50] (d_swapBasis ht hs hd hD (hX (i + 1).toNat) (hX (i + 2).toNat) (fun _ => ?_) (fun I J s' h' r fh tb m1 m2 m3 m4 m5 hkp hst => absurd ⟨⟨by omega, by omega⟩, ⟨by omega, by omega⟩, by omega⟩ c0)) rfl rfl rfl rfl
    refine wp_h (wL k p n a1 a2 a3 b1 b2 b3 e1 e2 e3 g1 g2 g3 q1 q2 q3 d1 d2 l sq sg t1 t2 d ml mx me rk br fW f1 f2 fr fq dr nf ng ft dt f fs s h sl sv on tw r ig gv sp ot re wh eq ma se pr gw li fh tb fm) rfl ?_
    refine wp_b rfl (by omega) (fun _ => ?_) (fun c => absurd rfl c)
    refine wp_g rfl (by omega) ?_
    refine hgo _ _ _ _ _ _ _ _ _ _ _ _ _ _ _ _ _ _ _ _ _ _ _ _ _ _ _ _ _ _ _ _ _ _ _ _ _ _ _ _ _ _ _ _ _ _ _ _ _ _ _ _ _ _ _ _ _ _ _ _ _ _ _ _ _ iv
  · refine wp_h (wL (if D = 6 then 6 else k + 1) p n a1 a2 a3 b1 b2 b3 e1 e2 e3 g1 g2 g3 q1 q2 q3 p n l sq sg t1 t2 d ml mx me rk br' fW f1 f2 fr fq dr nf ng ft dt (hk_f D f p n br) fs s h sl sv on tw r ig gv sp ot re wh eq ma se pr gw li fh tb fm) rfl ?_
    refine wp_c rfl (by omega) [28, 29, 30, 36, 49, 50] (d_swapBasis ht hs hd hD (hX (i + 1).toNat) (hX (i + 2).toNat) (fun c0 => absurd ⟨⟨by omega, by omega⟩, ⟨by omega, by omega⟩, by omega⟩ c0) (fun I' J' s' h' r fh tb m1' m2' m3' m4' m5' hkp hst => ?_)) rfl rfl rfl rfl
    refine wp_h (wL (if D = 6 then 6 else k + 1) p n a1 a2 a3 b1 b2 b3 e1 e2 e3 g1 g2 g3 q1 q2 q3 p n l sq sg t1 t2 (if D = 6 then 6 else d + 1) ml mx me rk br' fW f1 f2 fr fq dr nf ng ft dt (hk_f D f p n br) fs s' h' sl sv on tw r ig gv sp ot re wh eq ma se pr gw li fh tb fm) rfl ?_
    obtain rfl : I = I' := by omega
    obtain rfl : J = J' := by omega
    have htt := ch_ok ht (ch_x I J) (ch_x I J)
    have r1 := or_nm (f := ch_T p N T (ch_x I J) (ch_x I J) I J) hp hN (fun c _ => htt.2.2.2.1 I J c)
    refine wp_b rfl (by omega) (fun _ => ?_) (fun c => absurd rfl c)
    refine wp_g rfl (by omega) ?_
    refine hgo _ _ _ _ _ _ _ _ _ _ _ _ _ _ _ _ _ _ _ _ _ _ _ _ _ _ _ _ _ _ _ _ _ _ _ _ _ _ _ _ _ _ _ _ _ _ _ _ _ _ _ _ _ _ _ _ _ _ _ _ _ _ _ _ _ (lw_push ht hb hn hs hD hk hd hr hsn hL hl hml hf hfm htt hbr hn hst hkp)
theorem lw_q27 (hX : ∀ j, pj_rg (X.2 j)) (hi : 0 ≤ i ∧ i ≤ (X.1 : Int) - 4) (hXL : X.1 ≤ 2048) (hgo : lw_go X (i + 4) Q) (iv : lw_iv k p n br l ft f fs d ml s h sl sv fm) : pj_WP X m_Lw_law 849 [.inr 1002, .inr 0, .inr 28, .inl i] [] (wL k p n a1 a2 a3 b1 b2 b3 e1 e2 e3 g1 g2 g3 q1 q2 q3 d1 d2 l sq sg t1 t2 d ml mx me rk br fW f1 f2 fr fq dr nf ng ft dt f fs s h sl sv on tw r ig gv sp ot re wh eq ma se pr gw li fh tb fm) Q := by
  obtain ⟨N, T, D, L, ht, hb, hn, hs, hD, hk, hd, hr, hsn, hL, hl, hml, hf, hfm⟩ := id iv
  obtain ⟨hp, h1N, hN, hT, -⟩ := id ht
  have hp3 := nn_p_pos hp
  refine wp_c rfl (by omega) [0, 1, 2, 24, 25] (l_undo hk hD (fun c0 => ?_) (fun E c0 => ?_)) rfl rfl rfl rfl
  · refine wp_h (wL k p n a1 a2 a3 b1 b2 b3 e1 e2 e3 g1 g2 g3 q1 q2 q3 d1 d2 l sq sg t1 t2 d ml mx me rk br fW f1 f2 fr fq dr nf ng ft dt f fs s h sl sv on tw r ig gv sp ot re wh eq ma se pr gw li fh tb fm) rfl ?_
    refine wp_c rfl (by omega) [28, 29, 30] (d_undo hd hD (fun _ => ?_) (fun E s' c1 _ => absurd c1 (by omega))) rfl rfl rfl rfl
    refine wp_h (wL k p n a1 a2 a3 b1 b2 b3 e1 e2 e3 g1 g2 g3 q1 q2 q3 d1 d2 l sq sg t1 t2 d ml mx me rk br fW f1 f2 fr fq dr nf ng ft dt f fs s h sl sv on tw r ig gv sp ot re wh eq ma se pr gw li fh tb fm) rfl ?_
    refine wp_b rfl (by omega) (fun _ => ?_) (fun c => absurd rfl c)
    refine wp_g rfl (by omega) ?_
    refine hgo _ _ _ _ _ _ _ _ _ _ _ _ _ _ _ _ _ _ _ _ _ _ _ _ _ _ _ _ _ _ _ _ _ _ _ _ _ _ _ _ _ _ _ _ _ _ _ _ _ _ _ _ _ _ _ _ _ _ _ _ _ _ _ _ _ iv
  · refine wp_h (wL ((E : Int)) (f (27 * E)) (f (27 * E + 1)) a1 a2 a3 b1 b2 b3 e1 e2 e3 g1 g2 g3 q1 q2 q3 d1 d2 l sq sg t1 t2 d ml mx me rk (va_cpy f br (27 * E + 2) 0 25) fW f1 f2 fr fq dr nf ng ft dt f fs s h sl sv on tw r ig gv sp ot re wh eq ma se pr gw li fh tb fm) rfl ?_
    refine wp_c rfl (by omega) [28, 29, 30] (d_undo hd hD (fun c1 => absurd c1 (by omega)) (fun E' s' c1 hs' => ?_)) rfl rfl rfl rfl
    obtain rfl : E = E' := by omega
    refine wp_h (wL ((E : Int)) (f (27 * E)) (f (27 * E + 1)) a1 a2 a3 b1 b2 b3 e1 e2 e3 g1 g2 g3 q1 q2 q3 d1 d2 l sq sg t1 t2 ((E : Int)) ml mx me rk (va_cpy f br (27 * E + 2) 0 25) fW f1 f2 fr fq dr nf ng ft dt f fs s' h sl sv on tw r ig gv sp ot re wh eq ma se pr gw li fh tb fm) rfl ?_
    obtain ⟨p', N', T', hbk⟩ := hr E (by omega)
    have hg := hb_get (br := br) hbk hs'
    refine wp_b rfl (by omega) (fun _ => ?_) (fun c => absurd rfl c)
    refine wp_g rfl (by omega) ?_
    refine hgo _ _ _ _ _ _ _ _ _ _ _ _ _ _ _ _ _ _ _ _ _ _ _ _ _ _ _ _ _ _ _ _ _ _ _ _ _ _ _ _ _ _ _ _ _ _ _ _ _ _ _ _ _ _ _ _ _ _ _ _ _ _ _ _ _ ?_
    rw [hbk.2.1]
    exact ⟨N', T', E, L, hbk.1, hg.1, hbk.2.2.1, hg.2, by omega, rfl, rfl, hr_less hr (by omega), hsn, hL, hl, hml, hf, hfm⟩
theorem lw_q28 (hX : ∀ j, pj_rg (X.2 j)) (hi : 0 ≤ i ∧ i ≤ (X.1 : Int) - 4) (hXL : X.1 ≤ 2048) (hgo : lw_go X (i + 4) Q) (iv : lw_iv k p n br l ft f fs d ml s h sl sv fm) : pj_WP X m_Lw_law 862 [.inr 1002, .inr 0, .inr 28, .inl i] [] (wL k p n a1 a2 a3 b1 b2 b3 e1 e2 e3 g1 g2 g3 q1 q2 q3 d1 d2 l sq sg t1 t2 d ml mx me rk br fW f1 f2 fr fq dr nf ng ft dt f fs s h sl sv on tw r ig gv sp ot re wh eq ma se pr gw li fh tb fm) Q := by
  obtain ⟨N, T, D, L, ht, hb, hn, hs, hD, hk, hd, hr, hsn, hL, hl, hml, hf, hfm⟩ := id iv
  obtain ⟨hp, h1N, hN, hT, -⟩ := id ht
  have hp3 := nn_p_pos hp
  refine wp_c rfl (by omega) [0, 1, 2, 26, 27] (l_save (hX (i + 1).toNat) (fun c0 => ?_) (fun Z m1 m2 => ?_)) rfl rfl rfl rfl
  · refine wp_h (wL k p n a1 a2 a3 b1 b2 b3 e1 e2 e3 g1 g2 g3 q1 q2 q3 d1 d2 l sq sg t1 t2 d ml mx me rk br fW f1 f2 fr fq dr nf ng ft dt f fs s h sl sv on tw r ig gv sp ot re wh eq ma se pr gw li fh tb fm) rfl ?_
    refine wp_c rfl (by omega) [28, 29, 31, 32] (d_save hs.2.1 (hX (i + 1).toNat) (fun _ => ?_) (fun Z sl' m1 m2 _ => absurd ⟨by omega, by omega⟩ c0)) rfl rfl rfl rfl
    refine wp_h (wL k p n a1 a2 a3 b1 b2 b3 e1 e2 e3 g1 g2 g3 q1 q2 q3 d1 d2 l sq sg t1 t2 d ml mx me rk br fW f1 f2 fr fq dr nf ng ft dt f fs s h sl sv on tw r ig gv sp ot re wh eq ma se pr gw li fh tb fm) rfl ?_
    refine wp_b rfl (by omega) (fun _ => ?_) (fun c => absurd rfl c)
    refine wp_g rfl (by omega) ?_
    refine hgo _ _ _ _ _ _ _ _ _ _ _ _ _ _ _ _ _ _ _ _ _ _ _ _ _ _ _ _ _ _ _ _ _ _ _ _ _ _ _ _ _ _ _ _ _ _ _ _ _ _ _ _ _ _ _ _ _ _ _ _ _ _ _ _ _ iv
  · refine wp_h (wL k p n a1 a2 a3 b1 b2 b3 e1 e2 e3 g1 g2 g3 q1 q2 q3 d1 d2 l sq sg t1 t2 d ml mx me rk br fW f1 f2 fr fq dr nf ng ft dt f (sh_k fs Z p n br) s h sl sv on tw r ig gv sp ot re wh eq ma se pr gw li fh tb fm) rfl ?_
    refine wp_c rfl (by omega) [28, 29, 31, 32] (d_save hs.2.1 (hX (i + 1).toNat) (fun c0 => absurd ⟨by omega, by omega⟩ c0) (fun Z' sl' m1' m2' hsl => ?_)) rfl rfl rfl rfl
    obtain rfl : Z = Z' := by omega
    refine wp_h (wL k p n a1 a2 a3 b1 b2 b3 e1 e2 e3 g1 g2 g3 q1 q2 q3 d1 d2 l sq sg t1 t2 d ml mx me rk br fW f1 f2 fr fq dr nf ng ft dt f (sh_k fs Z p n br) s h sl' (pj_up sv Z 1) on tw r ig gv sp ot re wh eq ma se pr gw li fh tb fm) rfl ?_
    refine wp_b rfl (by omega) (fun _ => ?_) (fun c => absurd hn c)
    refine wp_g rfl (by omega) ?_
    refine hgo _ _ _ _ _ _ _ _ _ _ _ _ _ _ _ _ _ _ _ _ _ _ _ _ _ _ _ _ _ _ _ _ _ _ _ _ _ _ _ _ _ _ _ _ _ _ _ _ _ _ _ _ _ _ _ _ _ _ _ _ _ _ _ _ _ ⟨N, T, D, L, ht, hb, hn, hs, hD, hk, hd, hr, sn_put ht hb hn hs hsn hsl, hL, hl, hml, hf, hfm⟩
theorem lw_q29 (hX : ∀ j, pj_rg (X.2 j)) (hi : 0 ≤ i ∧ i ≤ (X.1 : Int) - 4) (hXL : X.1 ≤ 2048) (hgo : lw_go X (i + 4) Q) (iv : lw_iv k p n br l ft f fs d ml s h sl sv fm) : pj_WP X m_Lw_law 885 [.inr 1002, .inr 0, .inr 28, .inl i] [] (wL k p n a1 a2 a3 b1 b2 b3 e1 e2 e3 g1 g2 g3 q1 q2 q3 d1 d2 l sq sg t1 t2 d ml mx me rk br fW f1 f2 fr fq dr nf ng ft dt f fs s h sl sv on tw r ig gv sp ot re wh eq ma se pr gw li fh tb fm) Q := by
  obtain ⟨N, T, D, L, ht, hb, hn, hs, hD, hk, hd, hr, hsn, hL, hl, hml, hf, hfm⟩ := id iv
  obtain ⟨hp, h1N, hN, hT, -⟩ := id ht
  have hp3 := nn_p_pos hp
  have hfs : ∀ r, r < 2 → -2147483648 ≤ fs (27 * r) ∧ fs (27 * r) ≤ 2147483647 := fun r hr2 => by
    rcases hsn r hr2 with ⟨-, q⟩ | ⟨-, p', N', T', hbk⟩
    · omega
    · have h9 := nn_p_pos hbk.1.1
      have h8 := hbk.2.1
      omega
  have hsv : ∀ r, r < 2 → sv r = 0 ∨ sv r = 1 := fun r hr2 => by
    rcases hsn r hr2 with ⟨q, -⟩ | ⟨q, -⟩
    · exact Or.inl q
    · exact Or.inr q
  have hz : ∀ r, r < 2 → (fs (27 * r) = 0 ↔ sv r = 0) := fun r hr2 => by
    rcases hsn r hr2 with ⟨q1, q2⟩ | ⟨q1, p', N', T', hbk⟩
    · exact ⟨fun _ => q1, fun _ => q2⟩
    · have h9 := nn_p_pos hbk.1.1
      have h8 := hbk.2.1
      omega
  refine wp_c rfl (by omega) [0, 1, 2, 26, 27] (l_restore (hX (i + 1).toNat) hfs (fun c0 => ?_) (fun Z m1 m2 m3 => ?_) (fun Z m1 m2 m3 => ?_)) rfl rfl rfl rfl
  · refine wp_h (wL k p n a1 a2 a3 b1 b2 b3 e1 e2 e3 g1 g2 g3 q1 q2 q3 d1 d2 l sq sg t1 t2 d ml mx me rk br fW f1 f2 fr fq dr nf ng ft dt f fs s h sl sv on tw r ig gv sp ot re wh eq ma se pr gw li fh tb fm) rfl ?_
    refine wp_c rfl (by omega) [28, 29, 31, 32] (d_restore (hX (i + 1).toNat) hsv (fun _ => ?_) (fun Z m1 m2 _ => absurd ⟨by omega, by omega⟩ c0) (fun Z s' m1 m2 _ _ => absurd ⟨by omega, by omega⟩ c0)) rfl rfl rfl rfl
    refine wp_h (wL k p n a1 a2 a3 b1 b2 b3 e1 e2 e3 g1 g2 g3 q1 q2 q3 d1 d2 l sq sg t1 t2 d ml mx me rk br fW f1 f2 fr fq dr nf ng ft dt f fs s h sl sv on tw r ig gv sp ot re wh eq ma se pr gw li fh tb fm) rfl ?_
    refine wp_b rfl (by omega) (fun _ => ?_) (fun c => absurd rfl c)
    refine wp_g rfl (by omega) ?_
    refine hgo _ _ _ _ _ _ _ _ _ _ _ _ _ _ _ _ _ _ _ _ _ _ _ _ _ _ _ _ _ _ _ _ _ _ _ _ _ _ _ _ _ _ _ _ _ _ _ _ _ _ _ _ _ _ _ _ _ _ _ _ _ _ _ _ _ iv
  · refine wp_h (wL k p n a1 a2 a3 b1 b2 b3 e1 e2 e3 g1 g2 g3 q1 q2 q3 d1 d2 l sq sg t1 t2 d ml mx me rk br fW f1 f2 fr fq dr nf ng ft dt f fs s h sl sv on tw r ig gv sp ot re wh eq ma se pr gw li fh tb fm) rfl ?_
    have hz9 := (hz Z m2).mp m3
    refine wp_c rfl (by omega) [28, 29, 31, 32] (d_restore (hX (i + 1).toNat) hsv (fun c0 => absurd ⟨by omega, by omega⟩ c0) (fun Z' m1' m2' _ => ?_) (fun Z' s' m1' m2' q _ => absurd q (by rw [show Z' = Z by omega]; omega))) rfl rfl rfl rfl
    refine wp_h (wL k p n a1 a2 a3 b1 b2 b3 e1 e2 e3 g1 g2 g3 q1 q2 q3 d1 d2 l sq sg t1 t2 d ml mx me rk br fW f1 f2 fr fq dr nf ng ft dt f fs s h sl sv on tw r ig gv sp ot re wh eq ma se pr gw li fh tb fm) rfl ?_
    refine wp_b rfl (by omega) (fun _ => ?_) (fun c => absurd rfl c)
    refine wp_g rfl (by omega) ?_
    refine hgo _ _ _ _ _ _ _ _ _ _ _ _ _ _ _ _ _ _ _ _ _ _ _ _ _ _ _ _ _ _ _ _ _ _ _ _ _ _ _ _ _ _ _ _ _ _ _ _ _ _ _ _ _ _ _ _ _ _ _ _ _ _ _ _ _ iv
  · refine wp_h (wL 0 (fs (27 * Z)) (fs (27 * Z + 1)) a1 a2 a3 b1 b2 b3 e1 e2 e3 g1 g2 g3 q1 q2 q3 d1 d2 l sq sg t1 t2 d ml mx me rk (va_cpy fs br (27 * Z + 2) 0 25) fW f1 f2 fr fq dr nf ng ft dt f fs s h sl sv on tw r ig gv sp ot re wh eq ma se pr gw li fh tb fm) rfl ?_
    have hz9 : ¬ sv Z = 0 := fun q => m3 ((hz Z m2).mpr q)
    refine wp_c rfl (by omega) [28, 29, 31, 32] (d_restore (hX (i + 1).toNat) hsv (fun c0 => absurd ⟨by omega, by omega⟩ c0) (fun Z' m1' m2' q => absurd q (by rw [show Z' = Z by omega]; exact hz9)) (fun Z' s' m1' m2' q hs' => ?_)) rfl rfl rfl rfl
    obtain rfl : Z = Z' := by omega
    refine wp_h (wL 0 (fs (27 * Z)) (fs (27 * Z + 1)) a1 a2 a3 b1 b2 b3 e1 e2 e3 g1 g2 g3 q1 q2 q3 d1 d2 l sq sg t1 t2 0 ml mx me rk (va_cpy fs br (27 * Z + 2) 0 25) fW f1 f2 fr fq dr nf ng ft dt f fs s' h sl sv on tw r ig gv sp ot re wh eq ma se pr gw li fh tb fm) rfl ?_
    rcases hsn Z m2 with ⟨q1, q2⟩ | ⟨q1, p', N', T', hbk⟩
    · exact absurd q1 hz9
    · have hg := hb_get (br := br) hbk hs'
      have hn9 := hbk.2.2.1
      have hn8 := hg.2.2.1
      have hN' := hbk.1.2.2.1
      refine wp_b rfl (by omega) (fun _ => ?_) (fun c => absurd (by omega) c)
      refine wp_g rfl (by omega) ?_
      refine hgo _ _ _ _ _ _ _ _ _ _ _ _ _ _ _ _ _ _ _ _ _ _ _ _ _ _ _ _ _ _ _ _ _ _ _ _ _ _ _ _ _ _ _ _ _ _ _ _ _ _ _ _ _ _ _ _ _ _ _ _ _ _ _ _ _ ?_
      rw [hbk.2.1]
      exact ⟨N', T', 0, L, hbk.1, hg.1, hn9, hg.2, by omega, rfl, rfl, fun r hr0 => absurd hr0 (by omega), hsn, hL, hl, hml, hf, hfm⟩
end LWD
