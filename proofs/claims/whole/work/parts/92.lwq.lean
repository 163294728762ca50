/-! the law: the world of both sides, the questions -/
abbrev wL (k p n a1 a2 a3 b1 b2 b3 e1 e2 e3 g1 g2 g3 q1 q2 q3 d1 d2 l sq sg t1 t2 d ml mx me rk : Int) (br fW f1 f2 fr fq dr nf ng ft dt f fs s h sl sv on tw r ig gv sp ot re wh eq ma se pr gw li fh tb fm : Nat → Int) : List pj_C := [c_Li (.inr 1) (.inr 3) (.inr 10) (.inr 15) (.inr 20) (.inr 24) (.inr 26) (.inl k), c_T (.inl p) (.inl n) (.inr 2), c_A 25 br, c_Sp (.inr 1) (.inr 4) (.inr 6) (.inr 8), c_S (.inl 5) (.inr 5) (.inl a1) (.inl a2) (.inl a3), c_A 30 fW, c_S (.inl 5) (.inr 7) (.inl b1) (.inl b2) (.inl b3), c_A 30 f1, c_S (.inl 5) (.inr 9) (.inl e1) (.inl e2) (.inl e3), c_A 30 f2, c_Mp (.inr 1) (.inr 11) (.inr 13), c_S (.inl 5) (.inr 12) (.inl g1) (.inl g2) (.inl g3), c_A 30 fr, c_S (.inl 25) (.inr 14) (.inl q1) (.inl q2) (.inl q3), c_A 650 fq, c_Ch (.inr 1) (.inr 16) (.inr 18) (.inr 19), c_T (.inl d1) (.inl d2) (.inr 17), c_A 25 dr, c_A 5 nf, c_A 5 ng, c_Sc (.inr 21) (.inr 22) (.inl l) (.inl sq) (.inl sg), c_A 120 ft, c_T (.inl t1) (.inl t2) (.inr 23), c_A 25 dt, c_Sh (.inl 6) (.inr 25), c_A 162 f, c_Sh (.inl 2) (.inr 27), c_A 54 fs, .inr (8, [.inl 0, .inr 29, .inr 30, .inl d, .inr 31, .inr 32, .inr 33, .inl ml, .inr 34, .inr 35, .inr 36, .inl mx, .inl me, .inr 37, .inr 38, .inr 39, .inr 40, .inr 41, .inr 42, .inr 43, .inr 44, .inr 45, .inr 46, .inr 47, .inl rk, .inr 48, .inr 49, .inr 50]), c_A 127 s, c_A 762 h, c_A 254 sl, c_Z 2 sv, c_A 120 fm, c_A 5 on, c_A 5 tw, c_A 5 r, c_Z 25 ig, c_A 125 gv, c_A 26 sp, c_A 26 ot, c_A 5 re, c_A 26 wh, c_A 26 eq, c_A 25 ma, c_A 25 se, c_A 25 pr, c_A 625 gw, c_A 25 li, c_A 25 fh, c_A 125 tb]
/-- what both sides have in common -/
def lw_iv (k p n : Int) (br : Nat → Int) (l : Int) (ft f fs : Nat → Int) (d ml : Int) (s h sl sv fm : Nat → Int) : Prop := ∃ (N : Nat) (T : Nat → Nat → Nat → Int) (D L : Nat), tt_ok p N T ∧ tt_br p N T br ∧ n = N ∧ st_m p N T s ∧ D ≤ 6 ∧ k = D ∧ d = D ∧ hr_ok D f h ∧ sn_ok fs sl sv ∧ L ≤ 120 ∧ l = L ∧ ml = L ∧ (∀ q, q < 120 → 0 ≤ ft q ∧ ft q ≤ 255) ∧ fm = ft
/-- the loop goes on from here -/
def lw_go (X : pj_X) (i : Int) (Q : pj_Q) : Prop := ∀ (k p n a1 a2 a3 b1 b2 b3 e1 e2 e3 g1 g2 g3 q1 q2 q3 d1 d2 l sq sg t1 t2 d ml mx me rk : Int) (br fW f1 f2 fr fq dr nf ng ft dt f fs s h sl sv on tw r ig gv sp ot re wh eq ma se pr gw li fh tb fm : Nat → Int), lw_iv k p n br l ft f fs d ml s h sl sv fm → pj_WP X m_Lw_law 18 [.inr 1002, .inr 0, .inr 28, .inl i] [] (wL k p n a1 a2 a3 b1 b2 b3 e1 e2 e3 g1 g2 g3 q1 q2 q3 d1 d2 l sq sg t1 t2 d ml mx me rk br fW f1 f2 fr fq dr nf ng ft dt f fs s h sl sv on tw r ig gv sp ot re wh eq ma se pr gw li fh tb fm) Q
section LWQ
variable {X : pj_X} {Q : pj_Q} {i : Int} {k p n a1 a2 a3 b1 b2 b3 e1 e2 e3 g1 g2 g3 q1 q2 q3 d1 d2 l sq sg t1 t2 d ml mx me rk : Int} {br fW f1 f2 fr fq dr nf ng ft dt f fs s h sl sv on tw r ig gv sp ot re wh eq ma se pr gw li fh tb fm : Nat → Int}
theorem lw_q7 (hX : ∀ j, pj_rg (X.2 j)) (hi : 0 ≤ i ∧ i ≤ (X.1 : Int) - 4) (hXL : X.1 ≤ 2048) (hgo : lw_go X (i + 4) Q) (iv : lw_iv k p n br l ft f fs d ml s h sl sv fm) : pj_WP X m_Lw_law 319 [.inr 1002, .inr 0, .inr 28, .inl i] [] (wL k p n a1 a2 a3 b1 b2 b3 e1 e2 e3 g1 g2 g3 q1 q2 q3 d1 d2 l sq sg t1 t2 d ml mx me rk br fW f1 f2 fr fq dr nf ng ft dt f fs s h sl sv on tw r ig gv sp ot re wh eq ma se pr gw li fh tb fm) Q := by
  obtain ⟨N, T, D, L, ht, hb, hn, hs, hD, hk, hd, hr, hsn, hL, hl, hml, hf, hfm⟩ := id iv
  obtain ⟨hp, h1N, hN, hT, -⟩ := id ht
  refine wp_c rfl (by omega) [0, 1, 2] (l_bracket ht hb hn (hX (i + 1).toNat) (hX (i + 2).toNat) (fun  z hz => ?_)) rfl rfl rfl rfl
  refine wp_h (wL k p n a1 a2 a3 b1 b2 b3 e1 e2 e3 g1 g2 g3 q1 q2 q3 d1 d2 l sq sg t1 t2 d ml mx me rk br fW f1 f2 fr fq dr nf ng ft dt f fs s h sl sv on tw r ig gv sp ot re wh eq ma se pr gw li fh tb fm) rfl ?_
  refine wp_c rfl (by omega) [28, 29, 34, 35, 36] (d_bracket ht hs (hX (i + 1).toNat) (hX (i + 2).toNat) (fun on tw r z' hz' => ?_)) rfl rfl rfl rfl
  refine wp_h (wL k p n a1 a2 a3 b1 b2 b3 e1 e2 e3 g1 g2 g3 q1 q2 q3 d1 d2 l sq sg t1 t2 d ml mx me rk br fW f1 f2 fr fq dr nf ng ft dt f fs s h sl sv on tw r ig gv sp ot re wh eq ma se pr gw li fh tb fm) rfl ?_
  have r1 := or_br hp hN hz
  have r2 := or_br hp hN hz'
  refine wp_b rfl (by omega) (fun _ => ?_) (fun c => absurd (on_br hz hz') c)
  refine wp_g rfl (by omega) ?_
  exact hgo _ _ _ _ _ _ _ _ _ _ _ _ _ _ _ _ _ _ _ _ _ _ _ _ _ _ _ _ _ _ _ _ _ _ _ _ _ _ _ _ _ _ _ _ _ _ _ _ _ _ _ _ _ _ _ _ _ _ _ _ _ _ _ _ _ iv
theorem lw_q8 (hX : ∀ j, pj_rg (X.2 j)) (hi : 0 ≤ i ∧ i ≤ (X.1 : Int) - 4) (hXL : X.1 ≤ 2048) (hgo : lw_go X (i + 4) Q) (iv : lw_iv k p n br l ft f fs d ml s h sl sv fm) : pj_WP X m_Lw_law 352 [.inr 1002, .inr 0, .inr 28, .inl i] [] (wL k p n a1 a2 a3 b1 b2 b3 e1 e2 e3 g1 g2 g3 q1 q2 q3 d1 d2 l sq sg t1 t2 d ml mx me rk br fW f1 f2 fr fq dr nf ng ft dt f fs s h sl sv on tw r ig gv sp ot re wh eq ma se pr gw li fh tb fm) Q := by
  obtain ⟨N, T, D, L, ht, hb, hn, hs, hD, hk, hd, hr, hsn, hL, hl, hml, hf, hfm⟩ := id iv
  obtain ⟨hp, h1N, hN, hT, -⟩ := id ht
  refine wp_c rfl (by omega) [0, 1, 2] (l_jacobi ht hb hn (fun  z hz => ?_)) rfl rfl rfl rfl
  refine wp_h (wL k p n a1 a2 a3 b1 b2 b3 e1 e2 e3 g1 g2 g3 q1 q2 q3 d1 d2 l sq sg t1 t2 d ml mx me rk br fW f1 f2 fr fq dr nf ng ft dt f fs s h sl sv on tw r ig gv sp ot re wh eq ma se pr gw li fh tb fm) rfl ?_
  refine wp_c rfl (by omega) [28, 29] (d_jacobiFailure ht hs (fun  z' hz' => ?_)) rfl rfl rfl rfl
  refine wp_h (wL k p n a1 a2 a3 b1 b2 b3 e1 e2 e3 g1 g2 g3 q1 q2 q3 d1 d2 l sq sg t1 t2 d ml mx me rk br fW f1 f2 fr fq dr nf ng ft dt f fs s h sl sv on tw r ig gv sp ot re wh eq ma se pr gw li fh tb fm) rfl ?_
  have r1 := or_jf hN hz
  have r2 := or_jf hN hz'
  refine wp_b rfl (by omega) (fun _ => ?_) (fun c => absurd (on_jf hz hz') c)
  refine wp_g rfl (by omega) ?_
  exact hgo _ _ _ _ _ _ _ _ _ _ _ _ _ _ _ _ _ _ _ _ _ _ _ _ _ _ _ _ _ _ _ _ _ _ _ _ _ _ _ _ _ _ _ _ _ _ _ _ _ _ _ _ _ _ _ _ _ _ _ _ _ _ _ _ _ iv
theorem lw_q9 (hX : ∀ j, pj_rg (X.2 j)) (hi : 0 ≤ i ∧ i ≤ (X.1 : Int) - 4) (hXL : X.1 ≤ 2048) (hgo : lw_go X (i + 4) Q) (iv : lw_iv k p n br l ft f fs d ml s h sl sv fm) : pj_WP X m_Lw_law 365 [.inr 1002, .inr 0, .inr 28, .inl i] [] (wL k p n a1 a2 a3 b1 b2 b3 e1 e2 e3 g1 g2 g3 q1 q2 q3 d1 d2 l sq sg t1 t2 d ml mx me rk br fW f1 f2 fr fq dr nf ng ft dt f fs s h sl sv on tw r ig gv sp ot re wh eq ma se pr gw li fh tb fm) Q := by
  obtain ⟨N, T, D, L, ht, hb, hn, hs, hD, hk, hd, hr, hsn, hL, hl, hml, hf, hfm⟩ := id iv
  obtain ⟨hp, h1N, hN, hT, -⟩ := id ht
  refine wp_c rfl (by omega) [0, 1, 2, 3, 4, 5, 6, 7, 8, 9] (l_derDim ht hb hn (hX (i + 1).toNat) (fun fW f1 f2 a1 a2 a3 b1 b2 b3 e1 e2 e3 z hz => ?_)) rfl rfl rfl rfl
  refine wp_h (wL k p n a1 a2 a3 b1 b2 b3 e1 e2 e3 g1 g2 g3 q1 q2 q3 d1 d2 l sq sg t1 t2 d ml mx me rk br fW f1 f2 fr fq dr nf ng ft dt f fs s h sl sv on tw r ig gv sp ot re wh eq ma se pr gw li fh tb fm) rfl ?_
  refine wp_c rfl (by omega) [28, 29, 41, 36, 42, 40, 39] (d_derDim ht hs (hX (i + 1).toNat) (fun re r wh ot sp z' hz' => ?_)) rfl rfl rfl rfl
  refine wp_h (wL k p n a1 a2 a3 b1 b2 b3 e1 e2 e3 g1 g2 g3 q1 q2 q3 d1 d2 l sq sg t1 t2 d ml mx me rk br fW f1 f2 fr fq dr nf ng ft dt f fs s h sl sv on tw r ig gv sp ot re wh eq ma se pr gw li fh tb fm) rfl ?_
  have r1 := or_dd hN hz
  have r2 := or_dd hN hz'
  refine wp_b rfl (by omega) (fun _ => ?_) (fun c => absurd (on_dd hp hz hz') c)
  refine wp_g rfl (by omega) ?_
  exact hgo _ _ _ _ _ _ _ _ _ _ _ _ _ _ _ _ _ _ _ _ _ _ _ _ _ _ _ _ _ _ _ _ _ _ _ _ _ _ _ _ _ _ _ _ _ _ _ _ _ _ _ _ _ _ _ _ _ _ _ _ _ _ _ _ _ iv
theorem lw_q10 (hX : ∀ j, pj_rg (X.2 j)) (hi : 0 ≤ i ∧ i ≤ (X.1 : Int) - 4) (hXL : X.1 ≤ 2048) (hgo : lw_go X (i + 4) Q) (iv : lw_iv k p n br l ft f fs d ml s h sl sv fm) : pj_WP X m_Lw_law 388 [.inr 1002, .inr 0, .inr 28, .inl i] [] (wL k p n a1 a2 a3 b1 b2 b3 e1 e2 e3 g1 g2 g3 q1 q2 q3 d1 d2 l sq sg t1 t2 d ml mx me rk br fW f1 f2 fr fq dr nf ng ft dt f fs s h sl sv on tw r ig gv sp ot re wh eq ma se pr gw li fh tb fm) Q := by
  obtain ⟨N, T, D, L, ht, hb, hn, hs, hD, hk, hd, hr, hsn, hL, hl, hml, hf, hfm⟩ := id iv
  obtain ⟨hp, h1N, hN, hT, -⟩ := id ht
  refine wp_c rfl (by omega) [0, 1, 2, 3, 4, 5, 6, 7, 8, 9] (l_lowDim ht hb hn (hX (i + 1).toNat) (fun fW f1 f2 a1 a2 a3 b1 b2 b3 e1 e2 e3 z hz => ?_)) rfl rfl rfl rfl
  refine wp_h (wL k p n a1 a2 a3 b1 b2 b3 e1 e2 e3 g1 g2 g3 q1 q2 q3 d1 d2 l sq sg t1 t2 d ml mx me rk br fW f1 f2 fr fq dr nf ng ft dt f fs s h sl sv on tw r ig gv sp ot re wh eq ma se pr gw li fh tb fm) rfl ?_
  refine wp_c rfl (by omega) [28, 29, 41, 36, 42, 40, 39] (d_lowDim ht hs (hX (i + 1).toNat) (fun re r wh ot sp z' hz' => ?_)) rfl rfl rfl rfl
  refine wp_h (wL k p n a1 a2 a3 b1 b2 b3 e1 e2 e3 g1 g2 g3 q1 q2 q3 d1 d2 l sq sg t1 t2 d ml mx me rk br fW f1 f2 fr fq dr nf ng ft dt f fs s h sl sv on tw r ig gv sp ot re wh eq ma se pr gw li fh tb fm) rfl ?_
  have r1 := or_dd hN hz
  have r2 := or_dd hN hz'
  refine wp_b rfl (by omega) (fun _ => ?_) (fun c => absurd (on_dd hp hz hz') c)
  refine wp_g rfl (by omega) ?_
  exact hgo _ _ _ _ _ _ _ _ _ _ _ _ _ _ _ _ _ _ _ _ _ _ _ _ _ _ _ _ _ _ _ _ _ _ _ _ _ _ _ _ _ _ _ _ _ _ _ _ _ _ _ _ _ _ _ _ _ _ _ _ _ _ _ _ _ iv
theorem lw_q11 (hX : ∀ j, pj_rg (X.2 j)) (hi : 0 ≤ i ∧ i ≤ (X.1 : Int) - 4) (hXL : X.1 ≤ 2048) (hgo : lw_go X (i + 4) Q) (iv : lw_iv k p n br l ft f fs d ml s h sl sv fm) : pj_WP X m_Lw_law 411 [.inr 1002, .inr 0, .inr 28, .inl i] [] (wL k p n a1 a2 a3 b1 b2 b3 e1 e2 e3 g1 g2 g3 q1 q2 q3 d1 d2 l sq sg t1 t2 d ml mx me rk br fW f1 f2 fr fq dr nf ng ft dt f fs s h sl sv on tw r ig gv sp ot re wh eq ma se pr gw li fh tb fm) Q := by
  obtain ⟨N, T, D, L, ht, hb, hn, hs, hD, hk, hd, hr, hsn, hL, hl, hml, hf, hfm⟩ := id iv
  obtain ⟨hp, h1N, hN, hT, -⟩ := id ht
  refine wp_c rfl (by omega) [0, 1, 2, 3, 4, 5, 6, 7, 8, 9] (l_derVec ht hb hn (hX (i + 1).toNat) (hX (i + 2).toNat) (fun fW f1 f2 a1 a2 a3 b1 b2 b3 e1 e2 e3 z hz => ?_)) rfl rfl rfl rfl
  refine wp_h (wL k p n a1 a2 a3 b1 b2 b3 e1 e2 e3 g1 g2 g3 q1 q2 q3 d1 d2 l sq sg t1 t2 d ml mx me rk br fW f1 f2 fr fq dr nf ng ft dt f fs s h sl sv on tw r ig gv sp ot re wh eq ma se pr gw li fh tb fm) rfl ?_
  refine wp_c rfl (by omega) [28, 29, 41, 36, 42, 40, 39] (d_derVec ht hs (hX (i + 1).toNat) (hX (i + 2).toNat) (fun re r wh ot sp z' hz' => ?_)) rfl rfl rfl rfl
  refine wp_h (wL k p n a1 a2 a3 b1 b2 b3 e1 e2 e3 g1 g2 g3 q1 q2 q3 d1 d2 l sq sg t1 t2 d ml mx me rk br fW f1 f2 fr fq dr nf ng ft dt f fs s h sl sv on tw r ig gv sp ot re wh eq ma se pr gw li fh tb fm) rfl ?_
  have r1 := or_dv hp hN hz
  have r2 := or_dv hp hN hz'
  refine wp_b rfl (by omega) (fun _ => ?_) (fun c => absurd (on_dv hp hz hz') c)
  refine wp_g rfl (by omega) ?_
  exact hgo _ _ _ _ _ _ _ _ _ _ _ _ _ _ _ _ _ _ _ _ _ _ _ _ _ _ _ _ _ _ _ _ _ _ _ _ _ _ _ _ _ _ _ _ _ _ _ _ _ _ _ _ _ _ _ _ _ _ _ _ _ _ _ _ _ iv
theorem lw_q12 (hX : ∀ j, pj_rg (X.2 j)) (hi : 0 ≤ i ∧ i ≤ (X.1 : Int) - 4) (hXL : X.1 ≤ 2048) (hgo : lw_go X (i + 4) Q) (iv : lw_iv k p n br l ft f fs d ml s h sl sv fm) : pj_WP X m_Lw_law 444 [.inr 1002, .inr 0, .inr 28, .inl i] [] (wL k p n a1 a2 a3 b1 b2 b3 e1 e2 e3 g1 g2 g3 q1 q2 q3 d1 d2 l sq sg t1 t2 d ml mx me rk br fW f1 f2 fr fq dr nf ng ft dt f fs s h sl sv on tw r ig gv sp ot re wh eq ma se pr gw li fh tb fm) Q := by
  obtain ⟨N, T, D, L, ht, hb, hn, hs, hD, hk, hd, hr, hsn, hL, hl, hml, hf, hfm⟩ := id iv
  obtain ⟨hp, h1N, hN, hT, -⟩ := id ht
  refine wp_c rfl (by omega) [0, 1, 2, 3, 4, 5, 6, 7, 8, 9] (l_kind ht hb hn (fun fW f1 f2 a1 a2 a3 b1 b2 b3 e1 e2 e3 z hz => ?_)) rfl rfl rfl rfl
  refine wp_h (wL k p n a1 a2 a3 b1 b2 b3 e1 e2 e3 g1 g2 g3 q1 q2 q3 d1 d2 l sq sg t1 t2 d ml mx me rk br fW f1 f2 fr fq dr nf ng ft dt f fs s h sl sv on tw r ig gv sp ot re wh eq ma se pr gw li fh tb fm) rfl ?_
  refine wp_c rfl (by omega) [28, 29, 41, 36, 42, 40, 39] (d_kind ht hs (fun re r wh ot sp z' hz' => ?_)) rfl rfl rfl rfl
  refine wp_h (wL k p n a1 a2 a3 b1 b2 b3 e1 e2 e3 g1 g2 g3 q1 q2 q3 d1 d2 l sq sg t1 t2 d ml mx me rk br fW f1 f2 fr fq dr nf ng ft dt f fs s h sl sv on tw r ig gv sp ot re wh eq ma se pr gw li fh tb fm) rfl ?_
  have r1 := or_ki hz
  have r2 := or_ki hz'
  refine wp_b rfl (by omega) (fun _ => ?_) (fun c => absurd (on_ki hp hz hz') c)
  refine wp_g rfl (by omega) ?_
  exact hgo _ _ _ _ _ _ _ _ _ _ _ _ _ _ _ _ _ _ _ _ _ _ _ _ _ _ _ _ _ _ _ _ _ _ _ _ _ _ _ _ _ _ _ _ _ _ _ _ _ _ _ _ _ _ _ _ _ _ _ _ _ _ _ _ _ iv
theorem lw_q13 (hX : ∀ j, pj_rg (X.2 j)) (hi : 0 ≤ i ∧ i ≤ (X.1 : Int) - 4) (hXL : X.1 ≤ 2048) (hgo : lw_go X (i + 4) Q) (iv : lw_iv k p n br l ft f fs d ml s h sl sv fm) : pj_WP X m_Lw_law 457 [.inr 1002, .inr 0, .inr 28, .inl i] [] (wL k p n a1 a2 a3 b1 b2 b3 e1 e2 e3 g1 g2 g3 q1 q2 q3 d1 d2 l sq sg t1 t2 d ml mx me rk br fW f1 f2 fr fq dr nf ng ft dt f fs s h sl sv on tw r ig gv sp ot re wh eq ma se pr gw li fh tb fm) Q := by
  obtain ⟨N, T, D, L, ht, hb, hn, hs, hD, hk, hd, hr, hsn, hL, hl, hml, hf, hfm⟩ := id iv
  obtain ⟨hp, h1N, hN, hT, -⟩ := id ht
  refine wp_c rfl (by omega) [0, 1, 2, 3, 4, 5, 6, 7, 8, 9] (l_cenDim ht hb hn (fun fW f1 f2 a1 a2 a3 b1 b2 b3 e1 e2 e3 z hz => ?_)) rfl rfl rfl rfl
  refine wp_h (wL k p n a1 a2 a3 b1 b2 b3 e1 e2 e3 g1 g2 g3 q1 q2 q3 d1 d2 l sq sg t1 t2 d ml mx me rk br fW f1 f2 fr fq dr nf ng ft dt f fs s h sl sv on tw r ig gv sp ot re wh eq ma se pr gw li fh tb fm) rfl ?_
  refine wp_c rfl (by omega) [28, 29, 41, 35, 43, 39, 42] (d_cenDim ht hs (fun re tw eq sp wh z' hz' => ?_)) rfl rfl rfl rfl
  refine wp_h (wL k p n a1 a2 a3 b1 b2 b3 e1 e2 e3 g1 g2 g3 q1 q2 q3 d1 d2 l sq sg t1 t2 d ml mx me rk br fW f1 f2 fr fq dr nf ng ft dt f fs s h sl sv on tw r ig gv sp ot re wh eq ma se pr gw li fh tb fm) rfl ?_
  have r1 := or_cd hN hz
  have r2 := or_cd hN hz'
  refine wp_b rfl (by omega) (fun _ => ?_) (fun c => absurd (on_cd hp hz hz') c)
  refine wp_g rfl (by omega) ?_
  exact hgo _ _ _ _ _ _ _ _ _ _ _ _ _ _ _ _ _ _ _ _ _ _ _ _ _ _ _ _ _ _ _ _ _ _ _ _ _ _ _ _ _ _ _ _ _ _ _ _ _ _ _ _ _ _ _ _ _ _ _ _ _ _ _ _ _ iv
theorem lw_q14 (hX : ∀ j, pj_rg (X.2 j)) (hi : 0 ≤ i ∧ i ≤ (X.1 : Int) - 4) (hXL : X.1 ≤ 2048) (hgo : lw_go X (i + 4) Q) (iv : lw_iv k p n br l ft f fs d ml s h sl sv fm) : pj_WP X m_Lw_law 470 [.inr 1002, .inr 0, .inr 28, .inl i] [] (wL k p n a1 a2 a3 b1 b2 b3 e1 e2 e3 g1 g2 g3 q1 q2 q3 d1 d2 l sq sg t1 t2 d ml mx me rk br fW f1 f2 fr fq dr nf ng ft dt f fs s h sl sv on tw r ig gv sp ot re wh eq ma se pr gw li fh tb fm) Q := by
  obtain ⟨N, T, D, L, ht, hb, hn, hs, hD, hk, hd, hr, hsn, hL, hl, hml, hf, hfm⟩ := id iv
  obtain ⟨hp, h1N, hN, hT, -⟩ := id ht
  refine wp_c rfl (by omega) [0, 1, 2, 3, 4, 5, 6, 7, 8, 9] (l_cenVec ht hb hn (hX (i + 1).toNat) (fun fW f1 f2 a1 a2 a3 b1 b2 b3 e1 e2 e3 z hz => ?_)) rfl rfl rfl rfl
  refine wp_h (wL k p n a1 a2 a3 b1 b2 b3 e1 e2 e3 g1 g2 g3 q1 q2 q3 d1 d2 l sq sg t1 t2 d ml mx me rk br fW f1 f2 fr fq dr nf ng ft dt f fs s h sl sv on tw r ig gv sp ot re wh eq ma se pr gw li fh tb fm) rfl ?_
  refine wp_c rfl (by omega) [28, 29, 41, 35, 43, 39, 42] (d_cenVec ht hs (hX (i + 1).toNat) (fun re tw eq sp wh z' hz' => ?_)) rfl rfl rfl rfl
  refine wp_h (wL k p n a1 a2 a3 b1 b2 b3 e1 e2 e3 g1 g2 g3 q1 q2 q3 d1 d2 l sq sg t1 t2 d ml mx me rk br fW f1 f2 fr fq dr nf ng ft dt f fs s h sl sv on tw r ig gv sp ot re wh eq ma se pr gw li fh tb fm) rfl ?_
  have r1 := or_cv hp hN hz
  have r2 := or_cv hp hN hz'
  refine wp_b rfl (by omega) (fun _ => ?_) (fun c => absurd (on_cv hp hz hz') c)
  refine wp_g rfl (by omega) ?_
  exact hgo _ _ _ _ _ _ _ _ _ _ _ _ _ _ _ _ _ _ _ _ _ _ _ _ _ _ _ _ _ _ _ _ _ _ _ _ _ _ _ _ _ _ _ _ _ _ _ _ _ _ _ _ _ _ _ _ _ _ _ _ _ _ _ _ _ iv
theorem lw_q15 (hX : ∀ j, pj_rg (X.2 j)) (hi : 0 ≤ i ∧ i ≤ (X.1 : Int) - 4) (hXL : X.1 ≤ 2048) (hgo : lw_go X (i + 4) Q) (iv : lw_iv k p n br l ft f fs d ml s h sl sv fm) : pj_WP X m_Lw_law 493 [.inr 1002, .inr 0, .inr 28, .inl i] [] (wL k p n a1 a2 a3 b1 b2 b3 e1 e2 e3 g1 g2 g3 q1 q2 q3 d1 d2 l sq sg t1 t2 d ml mx me rk br fW f1 f2 fr fq dr nf ng ft dt f fs s h sl sv on tw r ig gv sp ot re wh eq ma se pr gw li fh tb fm) Q := by
  obtain ⟨N, T, D, L, ht, hb, hn, hs, hD, hk, hd, hr, hsn, hL, hl, hml, hf, hfm⟩ := id iv
  obtain ⟨hp, h1N, hN, hT, -⟩ := id ht
  refine wp_c rfl (by omega) [0, 1, 2, 3, 4, 5, 6, 7, 8, 9] (l_czDim ht hb hn (hX (i + 1).toNat) (fun fW f1 f2 a1 a2 a3 b1 b2 b3 e1 e2 e3 z hz => ?_)) rfl rfl rfl rfl
  refine wp_h (wL k p n a1 a2 a3 b1 b2 b3 e1 e2 e3 g1 g2 g3 q1 q2 q3 d1 d2 l sq sg t1 t2 d ml mx me rk br fW f1 f2 fr fq dr nf ng ft dt f fs s h sl sv on tw r ig gv sp ot re wh eq ma se pr gw li fh tb fm) rfl ?_
  refine wp_c rfl (by omega) [28, 29, 41, 35, 43, 34] (d_czDim ht hs (hX (i + 1).toNat) (fun re tw eq on z' hz' => ?_)) rfl rfl rfl rfl
  refine wp_h (wL k p n a1 a2 a3 b1 b2 b3 e1 e2 e3 g1 g2 g3 q1 q2 q3 d1 d2 l sq sg t1 t2 d ml mx me rk br fW f1 f2 fr fq dr nf ng ft dt f fs s h sl sv on tw r ig gv sp ot re wh eq ma se pr gw li fh tb fm) rfl ?_
  have r1 := or_cz hN hz
  have r2 := or_cz hN hz'
  refine wp_b rfl (by omega) (fun _ => ?_) (fun c => absurd (on_cz hp hz hz') c)
  refine wp_g rfl (by omega) ?_
  exact hgo _ _ _ _ _ _ _ _ _ _ _ _ _ _ _ _ _ _ _ _ _ _ _ _ _ _ _ _ _ _ _ _ _ _ _ _ _ _ _ _ _ _ _ _ _ _ _ _ _ _ _ _ _ _ _ _ _ _ _ _ _ _ _ _ _ iv
theorem lw_q16 (hX : ∀ j, pj_rg (X.2 j)) (hi : 0 ≤ i ∧ i ≤ (X.1 : Int) - 4) (hXL : X.1 ≤ 2048) (hgo : lw_go X (i + 4) Q) (iv : lw_iv k p n br l ft f fs d ml s h sl sv fm) : pj_WP X m_Lw_law 516 [.inr 1002, .inr 0, .inr 28, .inl i] [] (wL k p n a1 a2 a3 b1 b2 b3 e1 e2 e3 g1 g2 g3 q1 q2 q3 d1 d2 l sq sg t1 t2 d ml mx me rk br fW f1 f2 fr fq dr nf ng ft dt f fs s h sl sv on tw r ig gv sp ot re wh eq ma se pr gw li fh tb fm) Q := by
  obtain ⟨N, T, D, L, ht, hb, hn, hs, hD, hk, hd, hr, hsn, hL, hl, hml, hf, hfm⟩ := id iv
  obtain ⟨hp, h1N, hN, hT, -⟩ := id ht
  refine wp_c rfl (by omega) [0, 1, 2, 3, 4, 5, 6, 7, 8, 9] (l_idealDim ht hb hn (hX (i + 1).toNat) (fun fW f1 f2 a1 a2 a3 b1 b2 b3 e1 e2 e3 z hz => ?_)) rfl rfl rfl rfl
  refine wp_h (wL k p n a1 a2 a3 b1 b2 b3 e1 e2 e3 g1 g2 g3 q1 q2 q3 d1 d2 l sq sg t1 t2 d ml mx me rk br fW f1 f2 fr fq dr nf ng ft dt f fs s h sl sv on tw r ig gv sp ot re wh eq ma se pr gw li fh tb fm) rfl ?_
  refine wp_c rfl (by omega) [28, 29, 41, 36, 42, 40, 39, 34] (d_idealDim ht hs (hX (i + 1).toNat) (fun re r wh ot sp on z' hz' => ?_)) rfl rfl rfl rfl
  refine wp_h (wL k p n a1 a2 a3 b1 b2 b3 e1 e2 e3 g1 g2 g3 q1 q2 q3 d1 d2 l sq sg t1 t2 d ml mx me rk br fW f1 f2 fr fq dr nf ng ft dt f fs s h sl sv on tw r ig gv sp ot re wh eq ma se pr gw li fh tb fm) rfl ?_
  have r1 := or_id hN hz
  have r2 := or_id hN hz'
  refine wp_b rfl (by omega) (fun _ => ?_) (fun c => absurd (on_id hp hz hz') c)
  refine wp_g rfl (by omega) ?_
  exact hgo _ _ _ _ _ _ _ _ _ _ _ _ _ _ _ _ _ _ _ _ _ _ _ _ _ _ _ _ _ _ _ _ _ _ _ _ _ _ _ _ _ _ _ _ _ _ _ _ _ _ _ _ _ _ _ _ _ _ _ _ _ _ _ _ _ iv
theorem lw_q17 (hX : ∀ j, pj_rg (X.2 j)) (hi : 0 ≤ i ∧ i ≤ (X.1 : Int) - 4) (hXL : X.1 ≤ 2048) (hgo : lw_go X (i + 4) Q) (iv : lw_iv k p n br l ft f fs d ml s h sl sv fm) : pj_WP X m_Lw_law 539 [.inr 1002, .inr 0, .inr 28, .inl i] [] (wL k p n a1 a2 a3 b1 b2 b3 e1 e2 e3 g1 g2 g3 q1 q2 q3 d1 d2 l sq sg t1 t2 d ml mx me rk br fW f1 f2 fr fq dr nf ng ft dt f fs s h sl sv on tw r ig gv sp ot re wh eq ma se pr gw li fh tb fm) Q := by
  obtain ⟨N, T, D, L, ht, hb, hn, hs, hD, hk, hd, hr, hsn, hL, hl, hml, hf, hfm⟩ := id iv
  obtain ⟨hp, h1N, hN, hT, -⟩ := id ht
  refine wp_c rfl (by omega) [0, 1, 2, 3, 4, 5, 6, 7, 8, 9] (l_subDim ht hb hn (hX (i + 1).toNat) (hX (i + 2).toNat) (fun fW f1 f2 a1 a2 a3 b1 b2 b3 e1 e2 e3 z hz => ?_)) rfl rfl rfl rfl
  refine wp_h (wL k p n a1 a2 a3 b1 b2 b3 e1 e2 e3 g1 g2 g3 q1 q2 q3 d1 d2 l sq sg t1 t2 d ml mx me rk br fW f1 f2 fr fq dr nf ng ft dt f fs s h sl sv on tw r ig gv sp ot re wh eq ma se pr gw li fh tb fm) rfl ?_
  refine wp_c rfl (by omega) [28, 29, 41, 36, 42, 40, 39, 34] (d_subDim ht hs (hX (i + 1).toNat) (hX (i + 2).toNat) (fun re r wh ot sp on z' hz' => ?_)) rfl rfl rfl rfl
  refine wp_h (wL k p n a1 a2 a3 b1 b2 b3 e1 e2 e3 g1 g2 g3 q1 q2 q3 d1 d2 l sq sg t1 t2 d ml mx me rk br fW f1 f2 fr fq dr nf ng ft dt f fs s h sl sv on tw r ig gv sp ot re wh eq ma se pr gw li fh tb fm) rfl ?_
  have r1 := or_sd hN hz
  have r2 := or_sd hN hz'
  refine wp_b rfl (by omega) (fun _ => ?_) (fun c => absurd (on_sd hp hz hz') c)
  refine wp_g rfl (by omega) ?_
  exact hgo _ _ _ _ _ _ _ _ _ _ _ _ _ _ _ _ _ _ _ _ _ _ _ _ _ _ _ _ _ _ _ _ _ _ _ _ _ _ _ _ _ _ _ _ _ _ _ _ _ _ _ _ _ _ _ _ _ _ _ _ _ _ _ _ _ iv
theorem lw_q18 (hX : ∀ j, pj_rg (X.2 j)) (hi : 0 ≤ i ∧ i ≤ (X.1 : Int) - 4) (hXL : X.1 ≤ 2048) (hgo : lw_go X (i + 4) Q) (iv : lw_iv k p n br l ft f fs d ml s h sl sv fm) : pj_WP X m_Lw_law 572 [.inr 1002, .inr 0, .inr 28, .inl i] [] (wL k p n a1 a2 a3 b1 b2 b3 e1 e2 e3 g1 g2 g3 q1 q2 q3 d1 d2 l sq sg t1 t2 d ml mx me rk br fW f1 f2 fr fq dr nf ng ft dt f fs s h sl sv on tw r ig gv sp ot re wh eq ma se pr gw li fh tb fm) Q := by
  obtain ⟨N, T, D, L, ht, hb, hn, hs, hD, hk, hd, hr, hsn, hL, hl, hml, hf, hfm⟩ := id iv
  obtain ⟨hp, h1N, hN, hT, -⟩ := id ht
  refine wp_c rfl (by omega) [0, 1, 2, 3, 4, 5, 6, 7, 8, 9] (l_subVec ht hb hn (hX (i + 1).toNat) (hX (i + 2).toNat) (hX (i + 3).toNat) (fun fW f1 f2 a1 a2 a3 b1 b2 b3 e1 e2 e3 z hz => ?_)) rfl rfl rfl rfl
  refine wp_h (wL k p n a1 a2 a3 b1 b2 b3 e1 e2 e3 g1 g2 g3 q1 q2 q3 d1 d2 l sq sg t1 t2 d ml mx me rk br fW f1 f2 fr fq dr nf ng ft dt f fs s h sl sv on tw r ig gv sp ot re wh eq ma se pr gw li fh tb fm) rfl ?_
  refine wp_c rfl (by omega) [28, 29, 41, 36, 42, 40, 39, 34] (d_subVec ht hs (hX (i + 1).toNat) (hX (i + 2).toNat) (hX (i + 3).toNat) (fun re r wh ot sp on z' hz' => ?_)) rfl rfl rfl rfl
  refine wp_h (wL k p n a1 a2 a3 b1 b2 b3 e1 e2 e3 g1 g2 g3 q1 q2 q3 d1 d2 l sq sg t1 t2 d ml mx me rk br fW f1 f2 fr fq dr nf ng ft dt f fs s h sl sv on tw r ig gv sp ot re wh eq ma se pr gw li fh tb fm) rfl ?_
  have r1 := or_sv hp hN hz
  have r2 := or_sv hp hN hz'
  refine wp_b rfl (by omega) (fun _ => ?_) (fun c => absurd (on_sv hp hz hz') c)
  refine wp_g rfl (by omega) ?_
  exact hgo _ _ _ _ _ _ _ _ _ _ _ _ _ _ _ _ _ _ _ _ _ _ _ _ _ _ _ _ _ _ _ _ _ _ _ _ _ _ _ _ _ _ _ _ _ _ _ _ _ _ _ _ _ _ _ _ _ _ _ _ _ _ _ _ _ iv
theorem lw_q19 (hX : ∀ j, pj_rg (X.2 j)) (hi : 0 ≤ i ∧ i ≤ (X.1 : Int) - 4) (hXL : X.1 ≤ 2048) (hgo : lw_go X (i + 4) Q) (iv : lw_iv k p n br l ft f fs d ml s h sl sv fm) : pj_WP X m_Lw_law 615 [.inr 1002, .inr 0, .inr 28, .inl i] [] (wL k p n a1 a2 a3 b1 b2 b3 e1 e2 e3 g1 g2 g3 q1 q2 q3 d1 d2 l sq sg t1 t2 d ml mx me rk br fW f1 f2 fr fq dr nf ng ft dt f fs s h sl sv on tw r ig gv sp ot re wh eq ma se pr gw li fh tb fm) Q := by
  obtain ⟨N, T, D, L, ht, hb, hn, hs, hD, hk, hd, hr, hsn, hL, hl, hml, hf, hfm⟩ := id iv
  obtain ⟨hp, h1N, hN, hT, -⟩ := id ht
  refine wp_c rfl (by omega) [0, 1, 2, 10, 11, 12, 13, 14] (l_adjEntry ht hb hn (hX (i + 1).toNat) (hX (i + 2).toNat) (hX (i + 3).toNat) (fun fr fq g1 g2 g3 q1 q2 q3 z hz => ?_)) rfl rfl rfl rfl
  refine wp_h (wL k p n a1 a2 a3 b1 b2 b3 e1 e2 e3 g1 g2 g3 q1 q2 q3 d1 d2 l sq sg t1 t2 d ml mx me rk br fW f1 f2 fr fq dr nf ng ft dt f fs s h sl sv on tw r ig gv sp ot re wh eq ma se pr gw li fh tb fm) rfl ?_
  refine wp_c rfl (by omega) [28, 29, 34, 44] (d_adjEntry ht hs (hX (i + 1).toNat) (hX (i + 2).toNat) (hX (i + 3).toNat) (fun on ma z' hz' => ?_)) rfl rfl rfl rfl
  refine wp_h (wL k p n a1 a2 a3 b1 b2 b3 e1 e2 e3 g1 g2 g3 q1 q2 q3 d1 d2 l sq sg t1 t2 d ml mx me rk br fW f1 f2 fr fq dr nf ng ft dt f fs s h sl sv on tw r ig gv sp ot re wh eq ma se pr gw li fh tb fm) rfl ?_
  have r1 := or_ae hp hz
  have r2 := or_ae hp hz'
  refine wp_b rfl (by omega) (fun _ => ?_) (fun c => absurd (on_ae hz hz') c)
  refine wp_g rfl (by omega) ?_
  exact hgo _ _ _ _ _ _ _ _ _ _ _ _ _ _ _ _ _ _ _ _ _ _ _ _ _ _ _ _ _ _ _ _ _ _ _ _ _ _ _ _ _ _ _ _ _ _ _ _ _ _ _ _ _ _ _ _ _ _ _ _ _ _ _ _ _ iv
theorem lw_q20 (hX : ∀ j, pj_rg (X.2 j)) (hi : 0 ≤ i ∧ i ≤ (X.1 : Int) - 4) (hXL : X.1 ≤ 2048) (hgo : lw_go X (i + 4) Q) (iv : lw_iv k p n br l ft f fs d ml s h sl sv fm) : pj_WP X m_Lw_law 658 [.inr 1002, .inr 0, .inr 28, .inl i] [] (wL k p n a1 a2 a3 b1 b2 b3 e1 e2 e3 g1 g2 g3 q1 q2 q3 d1 d2 l sq sg t1 t2 d ml mx me rk br fW f1 f2 fr fq dr nf ng ft dt f fs s h sl sv on tw r ig gv sp ot re wh eq ma se pr gw li fh tb fm) Q := by
  obtain ⟨N, T, D, L, ht, hb, hn, hs, hD, hk, hd, hr, hsn, hL, hl, hml, hf, hfm⟩ := id iv
  obtain ⟨hp, h1N, hN, hT, -⟩ := id ht
  refine wp_c rfl (by omega) [0, 1, 2, 10, 11, 12, 13, 14] (l_nilIndex ht hb hn (hX (i + 1).toNat) (fun fr fq g1 g2 g3 q1 q2 q3 z hz => ?_)) rfl rfl rfl rfl
  refine wp_h (wL k p n a1 a2 a3 b1 b2 b3 e1 e2 e3 g1 g2 g3 q1 q2 q3 d1 d2 l sq sg t1 t2 d ml mx me rk br fW f1 f2 fr fq dr nf ng ft dt f fs s h sl sv on tw r ig gv sp ot re wh eq ma se pr gw li fh tb fm) rfl ?_
  refine wp_c rfl (by omega) [28, 29, 34, 44, 45, 46] (d_nilIndex ht hs (hX (i + 1).toNat) (fun on ma se pr z' hz' => ?_)) rfl rfl rfl rfl
  refine wp_h (wL k p n a1 a2 a3 b1 b2 b3 e1 e2 e3 g1 g2 g3 q1 q2 q3 d1 d2 l sq sg t1 t2 d ml mx me rk br fW f1 f2 fr fq dr nf ng ft dt f fs s h sl sv on tw r ig gv sp ot re wh eq ma se pr gw li fh tb fm) rfl ?_
  have r1 := or_ni hN hz
  have r2 := or_ni hN hz'
  refine wp_b rfl (by omega) (fun _ => ?_) (fun c => absurd (on_ni hp hz hz') c)
  refine wp_g rfl (by omega) ?_
  exact hgo _ _ _ _ _ _ _ _ _ _ _ _ _ _ _ _ _ _ _ _ _ _ _ _ _ _ _ _ _ _ _ _ _ _ _ _ _ _ _ _ _ _ _ _ _ _ _ _ _ _ _ _ _ _ _ _ _ _ _ _ _ _ _ _ _ iv
theorem lw_q21 (hX : ∀ j, pj_rg (X.2 j)) (hi : 0 ≤ i ∧ i ≤ (X.1 : Int) - 4) (hXL : X.1 ≤ 2048) (hgo : lw_go X (i + 4) Q) (iv : lw_iv k p n br l ft f fs d ml s h sl sv fm) : pj_WP X m_Lw_law 681 [.inr 1002, .inr 0, .inr 28, .inl i] [] (wL k p n a1 a2 a3 b1 b2 b3 e1 e2 e3 g1 g2 g3 q1 q2 q3 d1 d2 l sq sg t1 t2 d ml mx me rk br fW f1 f2 fr fq dr nf ng ft dt f fs s h sl sv on tw r ig gv sp ot re wh eq ma se pr gw li fh tb fm) Q := by
  obtain ⟨N, T, D, L, ht, hb, hn, hs, hD, hk, hd, hr, hsn, hL, hl, hml, hf, hfm⟩ := id iv
  obtain ⟨hp, h1N, hN, hT, -⟩ := id ht
  refine wp_c rfl (by omega) [0, 1, 2, 10, 11, 12, 13, 14] (l_killing ht hb hn (hX (i + 1).toNat) (hX (i + 2).toNat) (fun fr fq g1 g2 g3 q1 q2 q3 z hz => ?_)) rfl rfl rfl rfl
  refine wp_h (wL k p n a1 a2 a3 b1 b2 b3 e1 e2 e3 g1 g2 g3 q1 q2 q3 d1 d2 l sq sg t1 t2 d ml mx me rk br fW f1 f2 fr fq dr nf ng ft dt f fs s h sl sv on tw r ig gv sp ot re wh eq ma se pr gw li fh tb fm) rfl ?_
  refine wp_c rfl (by omega) [28, 29, 34, 44, 45, 46] (d_killing ht hs (hX (i + 1).toNat) (hX (i + 2).toNat) (fun on ma se pr z' hz' => ?_)) rfl rfl rfl rfl
  refine wp_h (wL k p n a1 a2 a3 b1 b2 b3 e1 e2 e3 g1 g2 g3 q1 q2 q3 d1 d2 l sq sg t1 t2 d ml mx me rk br fW f1 f2 fr fq dr nf ng ft dt f fs s h sl sv on tw r ig gv sp ot re wh eq ma se pr gw li fh tb fm) rfl ?_
  have r1 := or_kl hp hz
  have r2 := or_kl hp hz'
  refine wp_b rfl (by omega) (fun _ => ?_) (fun c => absurd (on_kl hz hz') c)
  refine wp_g rfl (by omega) ?_
  exact hgo _ _ _ _ _ _ _ _ _ _ _ _ _ _ _ _ _ _ _ _ _ _ _ _ _ _ _ _ _ _ _ _ _ _ _ _ _ _ _ _ _ _ _ _ _ _ _ _ _ _ _ _ _ _ _ _ _ _ _ _ _ _ _ _ _ iv
theorem lw_q22 (hX : ∀ j, pj_rg (X.2 j)) (hi : 0 ≤ i ∧ i ≤ (X.1 : Int) - 4) (hXL : X.1 ≤ 2048) (hgo : lw_go X (i + 4) Q) (iv : lw_iv k p n br l ft f fs d ml s h sl sv fm) : pj_WP X m_Lw_law 714 [.inr 1002, .inr 0, .inr 28, .inl i] [] (wL k p n a1 a2 a3 b1 b2 b3 e1 e2 e3 g1 g2 g3 q1 q2 q3 d1 d2 l sq sg t1 t2 d ml mx me rk br fW f1 f2 fr fq dr nf ng ft dt f fs s h sl sv on tw r ig gv sp ot re wh eq ma se pr gw li fh tb fm) Q := by
  obtain ⟨N, T, D, L, ht, hb, hn, hs, hD, hk, hd, hr, hsn, hL, hl, hml, hf, hfm⟩ := id iv
  obtain ⟨hp, h1N, hN, hT, -⟩ := id ht
  refine wp_c rfl (by omega) [0, 1, 2, 10, 11, 12, 13, 14] (l_killRad ht hb hn (fun fr fq g1 g2 g3 q1 q2 q3 z hz => ?_)) rfl rfl rfl rfl
  refine wp_h (wL k p n a1 a2 a3 b1 b2 b3 e1 e2 e3 g1 g2 g3 q1 q2 q3 d1 d2 l sq sg t1 t2 d ml mx me rk br fW f1 f2 fr fq dr nf ng ft dt f fs s h sl sv on tw r ig gv sp ot re wh eq ma se pr gw li fh tb fm) rfl ?_
  refine wp_c rfl (by omega) [28, 29, 34, 44, 45, 46, 41, 36, 43] (d_killRad ht hs (fun on ma se pr re r eq z' hz' => ?_)) rfl rfl rfl rfl
  refine wp_h (wL k p n a1 a2 a3 b1 b2 b3 e1 e2 e3 g1 g2 g3 q1 q2 q3 d1 d2 l sq sg t1 t2 d ml mx me rk br fW f1 f2 fr fq dr nf ng ft dt f fs s h sl sv on tw r ig gv sp ot re wh eq ma se pr gw li fh tb fm) rfl ?_
  have r1 := or_kr hN hz
  have r2 := or_kr hN hz'
  refine wp_b rfl (by omega) (fun _ => ?_) (fun c => absurd (on_kr hp hz hz') c)
  refine wp_g rfl (by omega) ?_
  exact hgo _ _ _ _ _ _ _ _ _ _ _ _ _ _ _ _ _ _ _ _ _ _ _ _ _ _ _ _ _ _ _ _ _ _ _ _ _ _ _ _ _ _ _ _ _ _ _ _ _ _ _ _ _ _ _ _ _ _ _ _ _ _ _ _ _ iv
theorem lw_q23 (hX : ∀ j, pj_rg (X.2 j)) (hi : 0 ≤ i ∧ i ≤ (X.1 : Int) - 4) (hXL : X.1 ≤ 2048) (hgo : lw_go X (i + 4) Q) (iv : lw_iv k p n br l ft f fs d ml s h sl sv fm) : pj_WP X m_Lw_law 727 [.inr 1002, .inr 0, .inr 28, .inl i] [] (wL k p n a1 a2 a3 b1 b2 b3 e1 e2 e3 g1 g2 g3 q1 q2 q3 d1 d2 l sq sg t1 t2 d ml mx me rk br fW f1 f2 fr fq dr nf ng ft dt f fs s h sl sv on tw r ig gv sp ot re wh eq ma se pr gw li fh tb fm) Q := by
  obtain ⟨N, T, D, L, ht, hb, hn, hs, hD, hk, hd, hr, hsn, hL, hl, hml, hf, hfm⟩ := id iv
  obtain ⟨hp, h1N, hN, hT, -⟩ := id ht
  refine wp_c rfl (by omega) [0, 1, 2, 10, 11, 12, 13, 14] (l_derivation ht hb hn (fun fr fq g1 g2 g3 q1 q2 q3 z hz => ?_)) rfl rfl rfl rfl
  refine wp_h (wL k p n a1 a2 a3 b1 b2 b3 e1 e2 e3 g1 g2 g3 q1 q2 q3 d1 d2 l sq sg t1 t2 d ml mx me rk br fW f1 f2 fr fq dr nf ng ft dt f fs s h sl sv on tw r ig gv sp ot re wh eq ma se pr gw li fh tb fm) rfl ?_
  refine wp_c rfl (by omega) [28, 29, 47, 48] (d_derivation ht hs (fun gw li rk z' hz' => ?_)) rfl rfl rfl rfl
  refine wp_h (wL k p n a1 a2 a3 b1 b2 b3 e1 e2 e3 g1 g2 g3 q1 q2 q3 d1 d2 l sq sg t1 t2 d ml mx me rk br fW f1 f2 fr fq dr nf ng ft dt f fs s h sl sv on tw r ig gv sp ot re wh eq ma se pr gw li fh tb fm) rfl ?_
  have r1 := or_de hN hz
  have r2 := or_de hN hz'
  refine wp_b rfl (by omega) (fun _ => ?_) (fun c => absurd (on_de hp hz hz') c)
  refine wp_g rfl (by omega) ?_
  exact hgo _ _ _ _ _ _ _ _ _ _ _ _ _ _ _ _ _ _ _ _ _ _ _ _ _ _ _ _ _ _ _ _ _ _ _ _ _ _ _ _ _ _ _ _ _ _ _ _ _ _ _ _ _ _ _ _ _ _ _ _ _ _ _ _ _ iv
theorem lw_q5 (hX : ∀ j, pj_rg (X.2 j)) (hi : 0 ≤ i ∧ i ≤ (X.1 : Int) - 4) (hXL : X.1 ≤ 2048) (hgo : lw_go X (i + 4) Q) (iv : lw_iv k p n br l ft f fs d ml s h sl sv fm) : pj_WP X m_Lw_law 293 [.inr 1002, .inr 0, .inr 28, .inl i] [] (wL k p n a1 a2 a3 b1 b2 b3 e1 e2 e3 g1 g2 g3 q1 q2 q3 d1 d2 l sq sg t1 t2 d ml mx me rk br fW f1 f2 fr fq dr nf ng ft dt f fs s h sl sv on tw r ig gv sp ot re wh eq ma se pr gw li fh tb fm) Q := by
  obtain ⟨N, T, D, L, ht, hb, hn, hs, hD, hk, hd, hr, hsn, hL, hl, hml, hf, hfm⟩ := id iv
  obtain ⟨hp, h1N, hN, hT, -⟩ := id ht
  have hp3 := nn_p_pos hp
  refine wp_c rfl (by omega) [0, 1, 2] (c_prime ?_) rfl rfl rfl rfl
  refine wp_h (wL k p n a1 a2 a3 b1 b2 b3 e1 e2 e3 g1 g2 g3 q1 q2 q3 d1 d2 l sq sg t1 t2 d ml mx me rk br fW f1 f2 fr fq dr nf ng ft dt f fs s h sl sv on tw r ig gv sp ot re wh eq ma se pr gw li fh tb fm) rfl ?_
  refine wp_c rfl (by omega) [28, 29] (d_prime hs.1 ?_) rfl rfl rfl rfl
  refine wp_h (wL k p n a1 a2 a3 b1 b2 b3 e1 e2 e3 g1 g2 g3 q1 q2 q3 d1 d2 l sq sg t1 t2 d ml mx me rk br fW f1 f2 fr fq dr nf ng ft dt f fs s h sl sv on tw r ig gv sp ot re wh eq ma se pr gw li fh tb fm) rfl ?_
  refine wp_b rfl (by omega) (fun _ => ?_) (fun c => absurd rfl c)
  refine wp_g rfl (by omega) ?_
  exact hgo _ _ _ _ _ _ _ _ _ _ _ _ _ _ _ _ _ _ _ _ _ _ _ _ _ _ _ _ _ _ _ _ _ _ _ _ _ _ _ _ _ _ _ _ _ _ _ _ _ _ _ _ _ _ _ _ _ _ _ _ _ _ _ _ _ iv
theorem lw_q6 (hX : ∀ j, pj_rg (X.2 j)) (hi : 0 ≤ i ∧ i ≤ (X.1 : Int) - 4) (hXL : X.1 ≤ 2048) (hgo : lw_go X (i + 4) Q) (iv : lw_iv k p n br l ft f fs d ml s h sl sv fm) : pj_WP X m_Lw_law 306 [.inr 1002, .inr 0, .inr 28, .inl i] [] (wL k p n a1 a2 a3 b1 b2 b3 e1 e2 e3 g1 g2 g3 q1 q2 q3 d1 d2 l sq sg t1 t2 d ml mx me rk br fW f1 f2 fr fq dr nf ng ft dt f fs s h sl sv on tw r ig gv sp ot re wh eq ma se pr gw li fh tb fm) Q := by
  obtain ⟨N, T, D, L, ht, hb, hn, hs, hD, hk, hd, hr, hsn, hL, hl, hml, hf, hfm⟩ := id iv
  obtain ⟨hp, h1N, hN, hT, -⟩ := id ht
  have hp3 := nn_p_pos hp
  refine wp_c rfl (by omega) [0, 1, 2] (c_dimension ?_) rfl rfl rfl rfl
  refine wp_h (wL k p n a1 a2 a3 b1 b2 b3 e1 e2 e3 g1 g2 g3 q1 q2 q3 d1 d2 l sq sg t1 t2 d ml mx me rk br fW f1 f2 fr fq dr nf ng ft dt f fs s h sl sv on tw r ig gv sp ot re wh eq ma se pr gw li fh tb fm) rfl ?_
  refine wp_c rfl (by omega) [28, 29] (d_dimension hs.2.1 ?_) rfl rfl rfl rfl
  refine wp_h (wL k p n a1 a2 a3 b1 b2 b3 e1 e2 e3 g1 g2 g3 q1 q2 q3 d1 d2 l sq sg t1 t2 d ml mx me rk br fW f1 f2 fr fq dr nf ng ft dt f fs s h sl sv on tw r ig gv sp ot re wh eq ma se pr gw li fh tb fm) rfl ?_
  refine wp_b rfl (by omega) (fun _ => ?_) (fun c => absurd hn c)
  refine wp_g rfl (by omega) ?_
  exact hgo _ _ _ _ _ _ _ _ _ _ _ _ _ _ _ _ _ _ _ _ _ _ _ _ _ _ _ _ _ _ _ _ _ _ _ _ _ _ _ _ _ _ _ _ _ _ _ _ _ _ _ _ _ _ _ _ _ _ _ _ _ _ _ _ _ iv
end LWQ
