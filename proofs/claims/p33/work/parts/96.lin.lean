/-! linear -/
section LIR
variable {X : pj_X} {Q : pj_Q} {p n a1 a2 a3 b1 b2 b3 e1 e2 e3 g1 g2 g3 q1 q2 q3 : Int} {N : Nat} {T : Nat → Nat → Nat → Int} {br fW f1 f2 fr fq : Nat → Int}
theorem g_l311 (ht : tt_ok p N T) (hb : tt_br p N T br) (hn : n = N) {u v w c : Int} (hu : 0 ≤ u ∧ u < p ^ N) (hv : 0 ≤ v ∧ v < p ^ N) (hw : 0 ≤ w ∧ w < p ^ N) (hc : 0 ≤ c ∧ c < p) (hQ : ∀ (a1 a2 a3 b1 b2 b3 e1 e2 e3 g1 g2 g3 q1 q2 q3 : Int) (fW f1 f2 fr fq : Nat → Int), Q (some (.inl 1)) (wG p n a1 a2 a3 b1 b2 b3 e1 e2 e3 g1 g2 g3 q1 q2 q3 br fW f1 f2 fr fq)) : ∀ (uv jc iv : Int) (a1 a2 a3 b1 b2 b3 e1 e2 e3 g1 g2 g3 q1 q2 q3 : Int) (fW f1 f2 fr fq : Nat → Int), pj_WP X m_Lw_linear 311 [.inr 0, .inl p, .inl n, .inl u, .inl v, .inl w, .inl c, .inl uv, .inl jc, .inl iv] [] (wG p n a1 a2 a3 b1 b2 b3 e1 e2 e3 g1 g2 g3 q1 q2 q3 br fW f1 f2 fr fq) Q := by
  obtain ⟨hp, h1N, hN, hT, -⟩ := id ht
  obtain ⟨hp1, hp2, hp3⟩ := nn_p_pos hp
  have hpw := nn_pwle hp N hN
  intro uv jc iv a1 a2 a3 b1 b2 b3 e1 e2 e3 g1 g2 g3 q1 q2 q3 fW f1 f2 fr fq
  refine wp_c rfl (by omega) [0, 1, 2, 3, 4, 5, 6, 7, 8, 9] (l_subDim ht hb hn ⟨by omega, by omega⟩ ⟨by omega, by omega⟩ (fun fW f1 f2 a1 a2 a3 b1 b2 b3 e1 e2 e3 s1 hs1 => ?_)) rfl rfl rfl rfl
  refine wp_h (wG p n a1 a2 a3 b1 b2 b3 e1 e2 e3 g1 g2 g3 q1 q2 q3 br fW f1 f2 fr fq) rfl ?_
  have t1 := fc_sd hs1 hu hv
  refine wp_b rfl (by omega) (fun e => absurd e (by omega)) (fun e => ?_)
  refine wp_c rfl (by omega) [0, 1, 2, 3, 4, 5, 6, 7, 8, 9] (l_subDim ht hb hn ⟨by omega, by omega⟩ ⟨by omega, by omega⟩ (fun fW f1 f2 a1 a2 a3 b1 b2 b3 e1 e2 e3 s2 hs2 => ?_)) rfl rfl rfl rfl
  refine wp_h (wG p n a1 a2 a3 b1 b2 b3 e1 e2 e3 g1 g2 g3 q1 q2 q3 br fW f1 f2 fr fq) rfl ?_
  have t2 := fc_s1 ht hu hs2
  by_cases h0 : u = 0
  · have t3 := t2.1 h0
    refine wp_b rfl (by omega) (fun e => absurd h0 e) (fun e => ?_)
    refine wp_b rfl (by omega) (fun e => absurd t3 e) (fun e => ?_)
    exact wp_r rfl (by omega) (hQ _ _ _ _ _ _ _ _ _ _ _ _ _ _ _ _ _ _ _ _)
  · have t3 := t2.2 h0
    refine wp_b rfl (by omega) (fun e => ?_) (fun e => absurd h0 e)
    refine wp_b rfl (by omega) (fun e => absurd t3 e) (fun e => ?_)
    exact wp_r rfl (by omega) (hQ _ _ _ _ _ _ _ _ _ _ _ _ _ _ _ _ _ _ _ _)
theorem g_l290 (ht : tt_ok p N T) (hb : tt_br p N T br) (hn : n = N) {u v w c : Int} (hu : 0 ≤ u ∧ u < p ^ N) (hv : 0 ≤ v ∧ v < p ^ N) (hw : 0 ≤ w ∧ w < p ^ N) (hc : 0 ≤ c ∧ c < p) (hQ : ∀ (a1 a2 a3 b1 b2 b3 e1 e2 e3 g1 g2 g3 q1 q2 q3 : Int) (fW f1 f2 fr fq : Nat → Int), Q (some (.inl 1)) (wG p n a1 a2 a3 b1 b2 b3 e1 e2 e3 g1 g2 g3 q1 q2 q3 br fW f1 f2 fr fq)) : ∀ (uv jc iv : Int) (a1 a2 a3 b1 b2 b3 e1 e2 e3 g1 g2 g3 q1 q2 q3 : Int) (fW f1 f2 fr fq : Nat → Int), pj_WP X m_Lw_linear 290 [.inr 0, .inl p, .inl n, .inl u, .inl v, .inl w, .inl c, .inl uv, .inl jc, .inl iv] [] (wG p n a1 a2 a3 b1 b2 b3 e1 e2 e3 g1 g2 g3 q1 q2 q3 br fW f1 f2 fr fq) Q := by
  obtain ⟨hp, h1N, hN, hT, -⟩ := id ht
  obtain ⟨hp1, hp2, hp3⟩ := nn_p_pos hp
  have hpw := nn_pwle hp N hN
  intro uv jc iv a1 a2 a3 b1 b2 b3 e1 e2 e3 g1 g2 g3 q1 q2 q3 fW f1 f2 fr fq
  refine wp_c rfl (by omega) [0, 1, 2, 3, 4, 5, 6, 7, 8, 9] (l_subDim ht hb hn ⟨by omega, by omega⟩ ⟨by omega, by omega⟩ (fun fW f1 f2 a1 a2 a3 b1 b2 b3 e1 e2 e3 s1 hs1 => ?_)) rfl rfl rfl rfl
  refine wp_h (wG p n a1 a2 a3 b1 b2 b3 e1 e2 e3 g1 g2 g3 q1 q2 q3 br fW f1 f2 fr fq) rfl ?_
  have t1 := fc_sd hs1 hu hv
  refine wp_b rfl (by omega) (fun e => absurd e (by omega)) (fun e => ?_)
  refine wp_c rfl (by omega) [0, 1, 2, 3, 4, 5, 6, 7, 8, 9] (l_subDim ht hb hn ⟨by omega, by omega⟩ ⟨by omega, by omega⟩ (fun fW f1 f2 a1 a2 a3 b1 b2 b3 e1 e2 e3 s2 hs2 => ?_)) rfl rfl rfl rfl
  refine wp_h (wG p n a1 a2 a3 b1 b2 b3 e1 e2 e3 g1 g2 g3 q1 q2 q3 br fW f1 f2 fr fq) rfl ?_
  have t2 := fc_s1 ht hu hs2
  by_cases h0 : u = 0
  · have t3 := t2.1 h0
    refine wp_b rfl (by omega) (fun e => absurd h0 e) (fun e => ?_)
    refine wp_b rfl (by omega) (fun e => absurd t3 e) (fun e => ?_)
    exact wp_r rfl (by omega) (hQ _ _ _ _ _ _ _ _ _ _ _ _ _ _ _ _ _ _ _ _)
  · have t3 := t2.2 h0
    refine wp_b rfl (by omega) (fun e => ?_) (fun e => absurd h0 e)
    refine wp_b rfl (by omega) (fun e => absurd t3 e) (fun e => ?_)
    exact wp_r rfl (by omega) (hQ _ _ _ _ _ _ _ _ _ _ _ _ _ _ _ _ _ _ _ _)
theorem g_l257 (ht : tt_ok p N T) (hb : tt_br p N T br) (hn : n = N) {u v w c : Int} (hu : 0 ≤ u ∧ u < p ^ N) (hv : 0 ≤ v ∧ v < p ^ N) (hw : 0 ≤ w ∧ w < p ^ N) (hc : 0 ≤ c ∧ c < p) (hQ : ∀ (a1 a2 a3 b1 b2 b3 e1 e2 e3 g1 g2 g3 q1 q2 q3 : Int) (fW f1 f2 fr fq : Nat → Int), Q (some (.inl 1)) (wG p n a1 a2 a3 b1 b2 b3 e1 e2 e3 g1 g2 g3 q1 q2 q3 br fW f1 f2 fr fq)) : ∀ (uv jc iv : Int) (a1 a2 a3 b1 b2 b3 e1 e2 e3 g1 g2 g3 q1 q2 q3 : Int) (fW f1 f2 fr fq : Nat → Int), pj_WP X m_Lw_linear 257 [.inr 0, .inl p, .inl n, .inl u, .inl v, .inl w, .inl c, .inl uv, .inl jc, .inl iv] [] (wG p n a1 a2 a3 b1 b2 b3 e1 e2 e3 g1 g2 g3 q1 q2 q3 br fW f1 f2 fr fq) Q := by
  obtain ⟨hp, h1N, hN, hT, -⟩ := id ht
  obtain ⟨hp1, hp2, hp3⟩ := nn_p_pos hp
  have hpw := nn_pwle hp N hN
  intro uv jc iv a1 a2 a3 b1 b2 b3 e1 e2 e3 g1 g2 g3 q1 q2 q3 fW f1 f2 fr fq
  refine wp_c rfl (by omega) [0, 1, 2, 3, 4, 5, 6, 7, 8, 9] (l_cenDim ht hb hn (fun fW f1 f2 a1 a2 a3 b1 b2 b3 e1 e2 e3 cd hcd => ?_)) rfl rfl rfl rfl
  refine wp_h (wG p n a1 a2 a3 b1 b2 b3 e1 e2 e3 g1 g2 g3 q1 q2 q3 br fW f1 f2 fr fq) rfl ?_
  have r1 := zr_cd hcd
  refine wp_c rfl (by omega) [0, 1, 2, 3, 4, 5, 6, 7, 8, 9] (l_czDim ht hb hn ⟨by omega, by omega⟩ (fun fW f1 f2 a1 a2 a3 b1 b2 b3 e1 e2 e3 cz hcz => ?_)) rfl rfl rfl rfl
  refine wp_h (wG p n a1 a2 a3 b1 b2 b3 e1 e2 e3 g1 g2 g3 q1 q2 q3 br fW f1 f2 fr fq) rfl ?_
  have t1 := fc_cz ht hu hcd hcz
  have r2 := or_cz hN hcz
  obtain ⟨r3, r4⟩ := r2
  refine wp_b rfl (by omega) (fun e => absurd e (by omega)) (fun e => ?_)
  by_cases h0 : u = 0
  · refine wp_b rfl (by omega) (fun e => absurd h0 e) (fun e => ?_)
    refine wp_c rfl (by omega) [0, 1, 2, 3, 4, 5, 6, 7, 8, 9] (l_czDim ht hb hn ⟨by omega, by omega⟩ (fun fW f1 f2 a1 a2 a3 b1 b2 b3 e1 e2 e3 cy hcy => ?_)) rfl rfl rfl rfl
    refine wp_h (wG p n a1 a2 a3 b1 b2 b3 e1 e2 e3 g1 g2 g3 q1 q2 q3 br fW f1 f2 fr fq) rfl ?_
    have t2 := (fc_cz ht hu hcd hcy).2.1 h0
    refine wp_b rfl (by omega) (fun e => absurd (by omega : cy = n) e) (fun e => ?_)
    refine wp_c rfl (by omega) [0, 1, 2, 3, 4, 5, 6, 7, 8, 9] (l_idealDim ht hb hn ⟨by omega, by omega⟩ (fun fW f1 f2 a1 a2 a3 b1 b2 b3 e1 e2 e3 idl hidl => ?_)) rfl rfl rfl rfl
    refine wp_h (wG p n a1 a2 a3 b1 b2 b3 e1 e2 e3 g1 g2 g3 q1 q2 q3 br fW f1 f2 fr fq) rfl ?_
    have t3 := (fc_id ht hu hidl).1 h0
    refine wp_b rfl (by omega) (fun e => absurd t3 e) (fun e => ?_)
    exact g_l290 ht hb hn hu hv hw hc hQ _ _ _ _ _ _ _ _ _ _ _ _ _ _ _ _ _ _ _ _ _ _ _
  · refine wp_b rfl (by omega) (fun e => ?_) (fun e => absurd h0 e)
    refine wp_c rfl (by omega) [0, 1, 2, 3, 4, 5, 6, 7, 8, 9] (l_czDim ht hb hn ⟨by omega, by omega⟩ (fun fW f1 f2 a1 a2 a3 b1 b2 b3 e1 e2 e3 cy hcy => ?_)) rfl rfl rfl rfl
    refine wp_h (wG p n a1 a2 a3 b1 b2 b3 e1 e2 e3 g1 g2 g3 q1 q2 q3 br fW f1 f2 fr fq) rfl ?_
    have t2 := (fc_cz ht hu hcd hcy).2.2 h0
    obtain ⟨r5, r6⟩ := or_cz hN hcy
    refine wp_b rfl (by omega) (fun e => absurd e (by omega)) (fun e => ?_)
    refine wp_c rfl (by omega) [0, 1, 2, 3, 4, 5, 6, 7, 8, 9] (l_idealDim ht hb hn ⟨by omega, by omega⟩ (fun fW f1 f2 a1 a2 a3 b1 b2 b3 e1 e2 e3 idl hidl => ?_)) rfl rfl rfl rfl
    refine wp_h (wG p n a1 a2 a3 b1 b2 b3 e1 e2 e3 g1 g2 g3 q1 q2 q3 br fW f1 f2 fr fq) rfl ?_
    have t3 := (fc_id ht hu hidl).2 h0
    obtain ⟨r7, r8⟩ := or_id hN hidl
    refine wp_b rfl (by omega) (fun e => absurd e (by omega)) (fun e => ?_)
    exact g_l311 ht hb hn hu hv hw hc hQ _ _ _ _ _ _ _ _ _ _ _ _ _ _ _ _ _ _ _ _ _ _ _
/-- linear(o, p, n, u, v, w, c) -/
theorem g_linear (ht : tt_ok p N T) (hb : tt_br p N T br) (hn : n = N) {u v w c : Int} (hu : 0 ≤ u ∧ u < p ^ N) (hv : 0 ≤ v ∧ v < p ^ N) (hw : 0 ≤ w ∧ w < p ^ N) (hc : 0 ≤ c ∧ c < p) (hQ : ∀ (a1 a2 a3 b1 b2 b3 e1 e2 e3 g1 g2 g3 q1 q2 q3 : Int) (fW f1 f2 fr fq : Nat → Int), Q (some (.inl 1)) (wG p n a1 a2 a3 b1 b2 b3 e1 e2 e3 g1 g2 g3 q1 q2 q3 br fW f1 f2 fr fq)) : pj_ci X m_Lw_linear [.inr 0, .inl p, .inl n, .inl u, .inl v, .inl w, .inl c] (wG p n a1 a2 a3 b1 b2 b3 e1 e2 e3 g1 g2 g3 q1 q2 q3 br fW f1 f2 fr fq) Q := by
  obtain ⟨hp, h1N, hN, hT, -⟩ := id ht
  obtain ⟨hp1, hp2, hp3⟩ := nn_p_pos hp
  have hpw := nn_pwle hp N hN
  refine wp_c rfl (by omega) [0, 1, 2] (l_bracket ht hb hn ⟨by omega, by omega⟩ ⟨by omega, by omega⟩ (fun uv huv => ?_)) rfl rfl rfl rfl
  replace huv := fb_val ⟨by omega, by omega⟩ ⟨by omega, by omega⟩ huv
  have ruv := fb_rg (N := N) (T := T) hp (nn_dg p u) (nn_dg p v)
  rw [← huv] at ruv
  refine wp_h (wG p n a1 a2 a3 b1 b2 b3 e1 e2 e3 g1 g2 g3 q1 q2 q3 br fW f1 f2 fr fq) rfl ?_
  refine wp_c rfl (by omega) [0, 1, 2] (l_bracket ht hb hn ⟨by omega, by omega⟩ ⟨by omega, by omega⟩ (fun uu huu => ?_)) rfl rfl rfl rfl
  replace huu := fb_val ⟨by omega, by omega⟩ ⟨by omega, by omega⟩ huu
  have ruu := fb_rg (N := N) (T := T) hp (nn_dg p u) (nn_dg p u)
  rw [← huu] at ruu
  refine wp_h (wG p n a1 a2 a3 b1 b2 b3 e1 e2 e3 g1 g2 g3 q1 q2 q3 br fW f1 f2 fr fq) rfl ?_
  have z1 : uu = 0 := by rw [huu]; exact ff_self ht _
  refine wp_b rfl (by omega) (fun e => absurd z1 e) (fun e => ?_)
  refine wp_c rfl (by omega) [0, 1, 2] (l_bracket ht hb hn ⟨by omega, by omega⟩ ⟨by omega, by omega⟩ (fun vu hvu => ?_)) rfl rfl rfl rfl
  replace hvu := fb_val ⟨by omega, by omega⟩ ⟨by omega, by omega⟩ hvu
  have rvu := fb_rg (N := N) (T := T) hp (nn_dg p v) (nn_dg p u)
  rw [← hvu] at rvu
  refine wp_h (wG p n a1 a2 a3 b1 b2 b3 e1 e2 e3 g1 g2 g3 q1 q2 q3 br fW f1 f2 fr fq) rfl ?_
  refine wp_c rfl (by omega) [] (s_sum hp hN hn (u := uv) (f := 1) (v := vu) ⟨by omega, by omega⟩ ⟨by omega, by omega⟩ ⟨by omega, by omega⟩ ?_) rfl rfl rfl rfl
  have rz2 := fp_rg (N := N) hp uv vu 1
  generalize hz2 : nn_plus p N uv vu 1 = z2 at rz2 ⊢
  refine wp_h (wG p n a1 a2 a3 b1 b2 b3 e1 e2 e3 g1 g2 g3 q1 q2 q3 br fW f1 f2 fr fq) rfl ?_
  have z2e : z2 = 0 := by rw [← hz2, huv, hvu]; exact ff_anti ht _ _
  refine wp_b rfl (by omega) (fun e => absurd z2e e) (fun e => ?_)
  refine wp_c rfl (by omega) [] (s_sum hp hN hn (u := u) (f := c) (v := w) ⟨by omega, by omega⟩ ⟨by omega, by omega⟩ ⟨by omega, by omega⟩ ?_) rfl rfl rfl rfl
  have rs1 := fp_rg (N := N) hp u w c
  generalize hs1 : nn_plus p N u w c = s1 at rs1 ⊢
  refine wp_h (wG p n a1 a2 a3 b1 b2 b3 e1 e2 e3 g1 g2 g3 q1 q2 q3 br fW f1 f2 fr fq) rfl ?_
  refine wp_c rfl (by omega) [0, 1, 2] (l_bracket ht hb hn ⟨by omega, by omega⟩ ⟨by omega, by omega⟩ (fun x4 hx4 => ?_)) rfl rfl rfl rfl
  replace hx4 := fb_val ⟨by omega, by omega⟩ ⟨by omega, by omega⟩ hx4
  have rx4 := fb_rg (N := N) (T := T) hp (nn_dg p s1) (nn_dg p v)
  rw [← hx4] at rx4
  refine wp_h (wG p n a1 a2 a3 b1 b2 b3 e1 e2 e3 g1 g2 g3 q1 q2 q3 br fW f1 f2 fr fq) rfl ?_
  refine wp_c rfl (by omega) [0, 1, 2] (l_bracket ht hb hn ⟨by omega, by omega⟩ ⟨by omega, by omega⟩ (fun x5 hx5 => ?_)) rfl rfl rfl rfl
  replace hx5 := fb_val ⟨by omega, by omega⟩ ⟨by omega, by omega⟩ hx5
  have rx5 := fb_rg (N := N) (T := T) hp (nn_dg p w) (nn_dg p v)
  rw [← hx5] at rx5
  refine wp_h (wG p n a1 a2 a3 b1 b2 b3 e1 e2 e3 g1 g2 g3 q1 q2 q3 br fW f1 f2 fr fq) rfl ?_
  refine wp_c rfl (by omega) [] (s_sum hp hN hn (u := uv) (f := c) (v := x5) ⟨by omega, by omega⟩ ⟨by omega, by omega⟩ ⟨by omega, by omega⟩ ?_) rfl rfl rfl rfl
  have rx6 := fp_rg (N := N) hp uv x5 c
  generalize hx6 : nn_plus p N uv x5 c = x6 at rx6 ⊢
  refine wp_h (wG p n a1 a2 a3 b1 b2 b3 e1 e2 e3 g1 g2 g3 q1 q2 q3 br fW f1 f2 fr fq) rfl ?_
  have z3 : x4 = x6 := by rw [← hx6, hx4, hx5, huv, ← hs1]; exact ff_lin ht u w c _
  refine wp_b rfl (by omega) (fun e => ?_) (fun e => absurd z3 e)
  refine wp_c rfl (by omega) [0, 1, 2, 10, 11, 12, 13, 14] (l_killing ht hb hn ⟨by omega, by omega⟩ ⟨by omega, by omega⟩ (fun fr fq g1 g2 g3 q1 q2 q3 k1 hk1 => ?_)) rfl rfl rfl rfl
  replace hk1 := fk_val ⟨by omega, by omega⟩ ⟨by omega, by omega⟩ hk1
  have rk1 := fk_rg (N := N) (T := T) hp (nn_dg p u) (nn_dg p v)
  rw [← hk1] at rk1
  refine wp_h (wG p n a1 a2 a3 b1 b2 b3 e1 e2 e3 g1 g2 g3 q1 q2 q3 br fW f1 f2 fr fq) rfl ?_
  refine wp_c rfl (by omega) [0, 1, 2, 10, 11, 12, 13, 14] (l_killing ht hb hn ⟨by omega, by omega⟩ ⟨by omega, by omega⟩ (fun fr fq g1 g2 g3 q1 q2 q3 k2 hk2 => ?_)) rfl rfl rfl rfl
  replace hk2 := fk_val ⟨by omega, by omega⟩ ⟨by omega, by omega⟩ hk2
  have rk2 := fk_rg (N := N) (T := T) hp (nn_dg p v) (nn_dg p u)
  rw [← hk2] at rk2
  refine wp_h (wG p n a1 a2 a3 b1 b2 b3 e1 e2 e3 g1 g2 g3 q1 q2 q3 br fW f1 f2 fr fq) rfl ?_
  have z4 : k1 = k2 := by rw [hk1, hk2]; exact zk_sym hp1 _ _
  refine wp_b rfl (by omega) (fun e => absurd z4 e) (fun e => ?_)
  refine wp_c rfl (by omega) [] (s_sum hp hN hn (u := u) (f := c) (v := w) ⟨by omega, by omega⟩ ⟨by omega, by omega⟩ ⟨by omega, by omega⟩ ?_) rfl rfl rfl rfl
  have rs2 := fp_rg (N := N) hp u w c
  generalize hs2 : nn_plus p N u w c = s2 at rs2 ⊢
  refine wp_h (wG p n a1 a2 a3 b1 b2 b3 e1 e2 e3 g1 g2 g3 q1 q2 q3 br fW f1 f2 fr fq) rfl ?_
  refine wp_c rfl (by omega) [0, 1, 2, 10, 11, 12, 13, 14] (l_killing ht hb hn ⟨by omega, by omega⟩ ⟨by omega, by omega⟩ (fun fr fq g1 g2 g3 q1 q2 q3 k3 hk3 => ?_)) rfl rfl rfl rfl
  replace hk3 := fk_val ⟨by omega, by omega⟩ ⟨by omega, by omega⟩ hk3
  have rk3 := fk_rg (N := N) (T := T) hp (nn_dg p s2) (nn_dg p v)
  rw [← hk3] at rk3
  refine wp_h (wG p n a1 a2 a3 b1 b2 b3 e1 e2 e3 g1 g2 g3 q1 q2 q3 br fW f1 f2 fr fq) rfl ?_
  refine wp_c rfl (by omega) [0, 1, 2, 10, 11, 12, 13, 14] (l_killing ht hb hn ⟨by omega, by omega⟩ ⟨by omega, by omega⟩ (fun fr fq g1 g2 g3 q1 q2 q3 k4 hk4 => ?_)) rfl rfl rfl rfl
  replace hk4 := fk_val ⟨by omega, by omega⟩ ⟨by omega, by omega⟩ hk4
  have rk4 := fk_rg (N := N) (T := T) hp (nn_dg p u) (nn_dg p v)
  rw [← hk4] at rk4
  refine wp_h (wG p n a1 a2 a3 b1 b2 b3 e1 e2 e3 g1 g2 g3 q1 q2 q3 br fW f1 f2 fr fq) rfl ?_
  refine wp_c rfl (by omega) [0, 1, 2, 10, 11, 12, 13, 14] (l_killing ht hb hn ⟨by omega, by omega⟩ ⟨by omega, by omega⟩ (fun fr fq g1 g2 g3 q1 q2 q3 k5 hk5 => ?_)) rfl rfl rfl rfl
  replace hk5 := fk_val ⟨by omega, by omega⟩ ⟨by omega, by omega⟩ hk5
  have rk5 := fk_rg (N := N) (T := T) hp (nn_dg p w) (nn_dg p v)
  rw [← hk5] at rk5
  refine wp_h (wG p n a1 a2 a3 b1 b2 b3 e1 e2 e3 g1 g2 g3 q1 q2 q3 br fW f1 f2 fr fq) rfl ?_
  have m1 : c * k5 ≤ 7 * 7 := Int.mul_le_mul (by omega) (by omega) (by omega) (by omega)
  have m2 : 0 ≤ c * k5 := Int.mul_nonneg hc.1 (by omega)
  refine wp_c rfl (by omega) [] (s_mod (v := k4 + c * k5) ⟨by omega, by omega⟩ ⟨hp1, hp3⟩ ?_) rfl rfl rfl rfl
  have m3 := Int.emod_nonneg (k4 + c * k5) (show p ≠ 0 by omega)
  have m4 := Int.emod_lt_of_pos (k4 + c * k5) hp1
  have z5 : k3 = (k4 + c * k5) % p := by rw [hk3, hk4, hk5, ← hs2]; exact ff_kl ht u w c _
  refine wp_h (wG p n a1 a2 a3 b1 b2 b3 e1 e2 e3 g1 g2 g3 q1 q2 q3 br fW f1 f2 fr fq) rfl ?_
  refine wp_b rfl (by omega) (fun e => ?_) (fun e => absurd z5 e)
  refine wp_c rfl (by omega) [0, 1, 2] (l_bracket ht hb hn ⟨by omega, by omega⟩ ⟨by omega, by omega⟩ (fun y1 hy1 => ?_)) rfl rfl rfl rfl
  replace hy1 := fb_val ⟨by omega, by omega⟩ ⟨by omega, by omega⟩ hy1
  have ry1 := fb_rg (N := N) (T := T) hp (nn_dg p v) (nn_dg p w)
  rw [← hy1] at ry1
  refine wp_h (wG p n a1 a2 a3 b1 b2 b3 e1 e2 e3 g1 g2 g3 q1 q2 q3 br fW f1 f2 fr fq) rfl ?_
  refine wp_c rfl (by omega) [0, 1, 2] (l_bracket ht hb hn ⟨by omega, by omega⟩ ⟨by omega, by omega⟩ (fun y2 hy2 => ?_)) rfl rfl rfl rfl
  replace hy2 := fb_val ⟨by omega, by omega⟩ ⟨by omega, by omega⟩ hy2
  have ry2 := fb_rg (N := N) (T := T) hp (nn_dg p u) (nn_dg p y1)
  rw [← hy2] at ry2
  refine wp_h (wG p n a1 a2 a3 b1 b2 b3 e1 e2 e3 g1 g2 g3 q1 q2 q3 br fW f1 f2 fr fq) rfl ?_
  refine wp_c rfl (by omega) [0, 1, 2] (l_bracket ht hb hn ⟨by omega, by omega⟩ ⟨by omega, by omega⟩ (fun y3 hy3 => ?_)) rfl rfl rfl rfl
  replace hy3 := fb_val ⟨by omega, by omega⟩ ⟨by omega, by omega⟩ hy3
  have ry3 := fb_rg (N := N) (T := T) hp (nn_dg p w) (nn_dg p u)
  rw [← hy3] at ry3
  refine wp_h (wG p n a1 a2 a3 b1 b2 b3 e1 e2 e3 g1 g2 g3 q1 q2 q3 br fW f1 f2 fr fq) rfl ?_
  refine wp_c rfl (by omega) [0, 1, 2] (l_bracket ht hb hn ⟨by omega, by omega⟩ ⟨by omega, by omega⟩ (fun y4 hy4 => ?_)) rfl rfl rfl rfl
  replace hy4 := fb_val ⟨by omega, by omega⟩ ⟨by omega, by omega⟩ hy4
  have ry4 := fb_rg (N := N) (T := T) hp (nn_dg p v) (nn_dg p y3)
  rw [← hy4] at ry4
  refine wp_h (wG p n a1 a2 a3 b1 b2 b3 e1 e2 e3 g1 g2 g3 q1 q2 q3 br fW f1 f2 fr fq) rfl ?_
  refine wp_c rfl (by omega) [] (s_sum hp hN hn (u := y2) (f := 1) (v := y4) ⟨by omega, by omega⟩ ⟨by omega, by omega⟩ ⟨by omega, by omega⟩ ?_) rfl rfl rfl rfl
  have rj1 := fp_rg (N := N) hp y2 y4 1
  generalize hj1 : nn_plus p N y2 y4 1 = j1 at rj1 ⊢
  refine wp_h (wG p n a1 a2 a3 b1 b2 b3 e1 e2 e3 g1 g2 g3 q1 q2 q3 br fW f1 f2 fr fq) rfl ?_
  refine wp_c rfl (by omega) [0, 1, 2] (l_bracket ht hb hn ⟨by omega, by omega⟩ ⟨by omega, by omega⟩ (fun y5 hy5 => ?_)) rfl rfl rfl rfl
  replace hy5 := fb_val ⟨by omega, by omega⟩ ⟨by omega, by omega⟩ hy5
  have ry5 := fb_rg (N := N) (T := T) hp (nn_dg p u) (nn_dg p v)
  rw [← hy5] at ry5
  refine wp_h (wG p n a1 a2 a3 b1 b2 b3 e1 e2 e3 g1 g2 g3 q1 q2 q3 br fW f1 f2 fr fq) rfl ?_
  refine wp_c rfl (by omega) [0, 1, 2] (l_bracket ht hb hn ⟨by omega, by omega⟩ ⟨by omega, by omega⟩ (fun y6 hy6 => ?_)) rfl rfl rfl rfl
  replace hy6 := fb_val ⟨by omega, by omega⟩ ⟨by omega, by omega⟩ hy6
  have ry6 := fb_rg (N := N) (T := T) hp (nn_dg p w) (nn_dg p y5)
  rw [← hy6] at ry6
  refine wp_h (wG p n a1 a2 a3 b1 b2 b3 e1 e2 e3 g1 g2 g3 q1 q2 q3 br fW f1 f2 fr fq) rfl ?_
  refine wp_c rfl (by omega) [] (s_sum hp hN hn (u := j1) (f := 1) (v := y6) ⟨by omega, by omega⟩ ⟨by omega, by omega⟩ ⟨by omega, by omega⟩ ?_) rfl rfl rfl rfl
  have rj2 := fp_rg (N := N) hp j1 y6 1
  generalize hj2 : nn_plus p N j1 y6 1 = j2 at rj2 ⊢
  refine wp_h (wG p n a1 a2 a3 b1 b2 b3 e1 e2 e3 g1 g2 g3 q1 q2 q3 br fW f1 f2 fr fq) rfl ?_
  refine wp_c rfl (by omega) [0, 1, 2] (l_jacobi ht hb hn (fun jf hjf => ?_)) rfl rfl rfl rfl
  refine wp_h (wG p n a1 a2 a3 b1 b2 b3 e1 e2 e3 g1 g2 g3 q1 q2 q3 br fW f1 f2 fr fq) rfl ?_
  obtain ⟨jr1, jr2⟩ := or_jf hN hjf
  refine wp_b rfl (by omega) (fun e => ?_) (fun e => ?_)
  · refine wp_b rfl (by omega) (fun ee => ?_) (fun ee => absurd rfl ee)
    exact g_l257 ht hb hn hu hv hw hc hQ _ _ _ _ _ _ _ _ _ _ _ _ _ _ _ _ _ _ _ _ _ _ _
  · have hJ : zj_all p N T := by
      have ej : jf = -9 := Classical.byContradiction e
      rcases hjf with ⟨I, J, K, i1, i2, i3, i4, i5, i6⟩ | ⟨i1, i2⟩
      · omega
      · exact (zj_jf ht).mp i1
    refine wp_b rfl (by omega) (fun ee => absurd ee (by omega)) (fun ee => ?_)
    have z6 : j2 = 0 := by rw [← hj2, ← hj1, hy6, hy5, hy4, hy3, hy2, hy1]; exact ff_jac ht hJ _ _ _
    refine wp_b rfl (by omega) (fun ee => absurd z6 ee) (fun ee => ?_)
    refine wp_c rfl (by omega) [0, 1, 2, 10, 11, 12, 13, 14] (l_killing ht hb hn ⟨by omega, by omega⟩ ⟨by omega, by omega⟩ (fun fr fq g1 g2 g3 q1 q2 q3 k6 hk6 => ?_)) rfl rfl rfl rfl
    replace hk6 := fk_val ⟨by omega, by omega⟩ ⟨by omega, by omega⟩ hk6
    have rk6 := fk_rg (N := N) (T := T) hp (nn_dg p uv) (nn_dg p w)
    rw [← hk6] at rk6
    refine wp_h (wG p n a1 a2 a3 b1 b2 b3 e1 e2 e3 g1 g2 g3 q1 q2 q3 br fW f1 f2 fr fq) rfl ?_
    refine wp_c rfl (by omega) [0, 1, 2] (l_bracket ht hb hn ⟨by omega, by omega⟩ ⟨by omega, by omega⟩ (fun y7 hy7 => ?_)) rfl rfl rfl rfl
    replace hy7 := fb_val ⟨by omega, by omega⟩ ⟨by omega, by omega⟩ hy7
    have ry7 := fb_rg (N := N) (T := T) hp (nn_dg p v) (nn_dg p w)
    rw [← hy7] at ry7
    refine wp_h (wG p n a1 a2 a3 b1 b2 b3 e1 e2 e3 g1 g2 g3 q1 q2 q3 br fW f1 f2 fr fq) rfl ?_
    refine wp_c rfl (by omega) [0, 1, 2, 10, 11, 12, 13, 14] (l_killing ht hb hn ⟨by omega, by omega⟩ ⟨by omega, by omega⟩ (fun fr fq g1 g2 g3 q1 q2 q3 k7 hk7 => ?_)) rfl rfl rfl rfl
    replace hk7 := fk_val ⟨by omega, by omega⟩ ⟨by omega, by omega⟩ hk7
    have rk7 := fk_rg (N := N) (T := T) hp (nn_dg p u) (nn_dg p y7)
    rw [← hk7] at rk7
    refine wp_h (wG p n a1 a2 a3 b1 b2 b3 e1 e2 e3 g1 g2 g3 q1 q2 q3 br fW f1 f2 fr fq) rfl ?_
    have z7 : k6 = k7 := by rw [hk6, hk7, hy7, huv]; exact ff_kinv ht hJ _ _ _
    refine wp_b rfl (by omega) (fun ee => absurd z7 ee) (fun ee => ?_)
    refine wp_c rfl (by omega) [0, 1, 2, 10, 11, 12, 13, 14] (l_derivation ht hb hn (fun fr fq g1 g2 g3 q1 q2 q3 de hde => ?_)) rfl rfl rfl rfl
    refine wp_h (wG p n a1 a2 a3 b1 b2 b3 e1 e2 e3 g1 g2 g3 q1 q2 q3 br fW f1 f2 fr fq) rfl ?_
    refine wp_c rfl (by omega) [0, 1, 2, 3, 4, 5, 6, 7, 8, 9] (l_cenDim ht hb hn (fun fW f1 f2 a1 a2 a3 b1 b2 b3 e1 e2 e3 cd hcd => ?_)) rfl rfl rfl rfl
    refine wp_h (wG p n a1 a2 a3 b1 b2 b3 e1 e2 e3 g1 g2 g3 q1 q2 q3 br fW f1 f2 fr fq) rfl ?_
    have z8 := zd_inner ht hJ hde hcd
    have z9 := zr_de hN hde
    have z10 := zr_cd hcd
    refine wp_b rfl (by omega) (fun ee => ?_) (fun ee => absurd (by omega : n - cd ≤ de) ee)
    exact g_l257 ht hb hn hu hv hw hc hQ _ _ _ _ _ _ _ _ _ _ _ _ _ _ _ _ _ _ _ _ _ _ _
end LIR
