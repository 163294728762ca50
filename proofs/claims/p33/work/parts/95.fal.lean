/-! falls -/
section FAL
variable {X : pj_X} {Q : pj_Q} {p n a1 a2 a3 b1 b2 b3 e1 e2 e3 g1 g2 g3 q1 q2 q3 : Int} {N : Nat} {T : Nat → Nat → Nat → Int} {br fW f1 f2 fr fq : Nat → Int}
theorem g_f3 (hp : nn_p p) (hN : N ≤ 5) (hn : n = N) {v : Int} {q : Nat} (hq : q < N) (hv : 0 ≤ v ∧ v ≤ 2147483647) (h0 : ∀ c, c < q → nn_dg p v c = 0) (h1 : nn_dg p v q = 1) {x2 x3 lv d l bf k : Int} (hk : pj_WP X m_Lw_falls 127 [.inr 0, .inl n, .inl x2, .inl x3, .inl lv, .inl d, .inl l, .inl bf, .inl k, .inl v, .inl (q : Int)] [] (wG p n a1 a2 a3 b1 b2 b3 e1 e2 e3 g1 g2 g3 q1 q2 q3 br fW f1 f2 fr fq) Q) : ∀ (m A : Nat) (z : Int), A + m = q → z = A → pj_WP X m_Lw_falls 101 [.inr 0, .inl n, .inl x2, .inl x3, .inl lv, .inl d, .inl l, .inl bf, .inl k, .inl v, .inl z] [] (wG p n a1 a2 a3 b1 b2 b3 e1 e2 e3 g1 g2 g3 q1 q2 q3 br fW f1 f2 fr fq) Q := by
  intro m
  induction m with
  | zero =>
    intro A z hA hz
    have eA : A = q := by omega
    subst eA
    refine wp_b rfl (by omega) (fun e => absurd e (by omega)) (fun e => ?_)
    refine wp_c rfl (by omega) [0, 1, 2] (c_prime ?_) rfl rfl rfl rfl
    refine wp_c rfl (by omega) [] (s_digit (K := A) hp hv (by omega) hz ?_) rfl rfl rfl rfl
    rw [h1]
    refine wp_h (wG p n a1 a2 a3 b1 b2 b3 e1 e2 e3 g1 g2 g3 q1 q2 q3 br fW f1 f2 fr fq) rfl ?_
    refine wp_b rfl (by omega) (fun e => ?_) (fun e => absurd e (by omega))
    rw [hz]
    exact hk
  | succ m ih =>
    intro A z hA hz
    refine wp_b rfl (by omega) (fun e => absurd e (by omega)) (fun e => ?_)
    refine wp_c rfl (by omega) [0, 1, 2] (c_prime ?_) rfl rfl rfl rfl
    refine wp_c rfl (by omega) [] (s_digit (K := A) hp hv (by omega) hz ?_) rfl rfl rfl rfl
    rw [h0 A (by omega)]
    refine wp_h (wG p n a1 a2 a3 b1 b2 b3 e1 e2 e3 g1 g2 g3 q1 q2 q3 br fW f1 f2 fr fq) rfl ?_
    refine wp_b rfl (by omega) (fun e => absurd rfl e) (fun e => ?_)
    refine wp_g rfl (by omega) ?_
    exact ih (A + 1) _ (by omega) (by omega)
theorem g_f2 (ht : tt_ok p N T) (hb : tt_br p N T br) (hn : n = N) {x2 x3 lv d l : Int} (hlv : 0 ≤ lv ∧ lv ≤ 9) (hd : an_dd p N T false lv d) (hk : ∀ (a1 a2 a3 b1 b2 b3 e1 e2 e3 g1 g2 g3 q1 q2 q3 : Int) (fW f1 f2 fr fq : Nat → Int) (bf k : Int) (v a : pj_V), pj_WP X m_Lw_falls 167 [.inr 0, .inl n, .inl x2, .inl x3, .inl lv, .inl d, .inl l, .inl bf, .inl k, v, a] [] (wG p n a1 a2 a3 b1 b2 b3 e1 e2 e3 g1 g2 g3 q1 q2 q3 br fW f1 f2 fr fq) Q) : ∀ (m K : Nat) (bf z : Int) (v a : pj_V) (a1 a2 a3 b1 b2 b3 e1 e2 e3 g1 g2 g3 q1 q2 q3 : Int) (fW f1 f2 fr fq : Nat → Int), (K : Int) + m = d → z = K → ((K = 0 ∧ bf = -1) ∨ ∃ q y, fs_is p N T lv ((K : Int) - 1) q y ∧ bf = (q : Int)) → pj_WP X m_Lw_falls 81 [.inr 0, .inl n, .inl x2, .inl x3, .inl lv, .inl d, .inl l, .inl bf, .inl z, v, a] [] (wG p n a1 a2 a3 b1 b2 b3 e1 e2 e3 g1 g2 g3 q1 q2 q3 br fW f1 f2 fr fq) Q := by
  obtain ⟨hp, h1N, hN, hT, -⟩ := id ht
  have hpw := nn_pwle hp N hN
  have hdr := fs_rg hlv hd
  intro m
  induction m with
  | zero =>
    intro K bf z v a a1 a2 a3 b1 b2 b3 e1 e2 e3 g1 g2 g3 q1 q2 q3 fW f1 f2 fr fq hK hz hbf
    refine wp_b rfl (by omega) (fun e => ?_) (fun e => absurd e (by omega))
    exact hk a1 a2 a3 b1 b2 b3 e1 e2 e3 g1 g2 g3 q1 q2 q3 fW f1 f2 fr fq _ _ _ _
  | succ m ih =>
    intro K bf z v a a1 a2 a3 b1 b2 b3 e1 e2 e3 g1 g2 g3 q1 q2 q3 fW f1 f2 fr fq hK hz hbf
    refine wp_b rfl (by omega) (fun e => absurd e (by omega)) (fun e => ?_)
    refine wp_c rfl (by omega) [0, 1, 2, 3, 4, 5, 6, 7, 8, 9] (l_derVec ht hb hn ⟨by omega, by omega⟩ ⟨by omega, by omega⟩ (fun fW f1 f2 a1 a2 a3 b1 b2 b3 e1 e2 e3 y hy => ?_)) rfl rfl rfl rfl
    obtain ⟨q, hq⟩ := fs_row hp hlv (z := d) (k := z) ⟨by omega, by omega⟩ hd hy
    obtain ⟨w1, w2, w3, w4, w5⟩ := fs_lead hp hq
    have hbq : -1 ≤ bf ∧ bf < (q : Int) := by
      rcases hbf with ⟨_, e2⟩ | ⟨q', y', e1, e2⟩
      · omega
      · have h9 := fs_next (k := z - 1) hp (by rw [hz]; exact e1) (by rw [show z - 1 + 1 = z by omega]; exact hq)
        omega
    refine wp_h (wG p n a1 a2 a3 b1 b2 b3 e1 e2 e3 g1 g2 g3 q1 q2 q3 br fW f1 f2 fr fq) rfl ?_
    refine wp_g rfl (by omega) ?_
    refine g_f3 hp hN hn w1 ⟨by omega, by omega⟩ w4 w5 ?_ q 0 _ (by omega) (by omega)
    refine wp_b rfl (by omega) (fun e => absurd e (by omega)) (fun e => ?_)
    refine wp_b rfl (by omega) (fun e => absurd e (by omega)) (fun e => ?_)
    refine wp_c rfl (by omega) [0, 1, 2] (c_prime ?_) rfl rfl rfl rfl
    refine wp_c rfl (by omega) [] (s_digit (K := q) hp ⟨by omega, by omega⟩ (by omega) rfl ?_) rfl rfl rfl rfl
    rw [w5]
    refine wp_h (wG p n a1 a2 a3 b1 b2 b3 e1 e2 e3 g1 g2 g3 q1 q2 q3 br fW f1 f2 fr fq) rfl ?_
    refine wp_b rfl (by omega) (fun e => ?_) (fun e => absurd rfl e)
    refine wp_g rfl (by omega) ?_
    exact ih (K + 1) _ _ _ _ _ _ _ _ _ _ _ _ _ _ _ _ _ _ _ _ _ _ _ _ (by omega) (by omega) (Or.inr ⟨q, y, by rw [show ((K + 1 : Nat) : Int) - 1 = z by omega]; exact hq, rfl⟩)
theorem g_f1 (ht : tt_ok p N T) (hb : tt_br p N T br) (hn : n = N) (hQ : ∀ (a1 a2 a3 b1 b2 b3 e1 e2 e3 g1 g2 g3 q1 q2 q3 : Int) (fW f1 f2 fr fq : Nat → Int), Q (some (.inl 1)) (wG p n a1 a2 a3 b1 b2 b3 e1 e2 e3 g1 g2 g3 q1 q2 q3 br fW f1 f2 fr fq)) : ∀ (m L : Nat) (x2 x3 z : Int) (d l bf k v a : pj_V) (a1 a2 a3 b1 b2 b3 e1 e2 e3 g1 g2 g3 q1 q2 q3 : Int) (fW f1 f2 fr fq : Nat → Int), L + m = 10 → z = L → ((L = 0 ∧ x2 = n ∧ x3 = n) ∨ (1 ≤ L ∧ an_dd p N T false ((L : Int) - 1) x2 ∧ an_dd p N T true ((L : Int) - 1) x3)) → pj_WP X m_Lw_falls 7 [.inr 0, .inl n, .inl x2, .inl x3, .inl z, d, l, bf, k, v, a] [] (wG p n a1 a2 a3 b1 b2 b3 e1 e2 e3 g1 g2 g3 q1 q2 q3 br fW f1 f2 fr fq) Q := by
  obtain ⟨hp, h1N, hN, hT, -⟩ := id ht
  have hpw := nn_pwle hp N hN
  intro m
  induction m with
  | zero =>
    intro L x2 x3 z d l bf k v a a1 a2 a3 b1 b2 b3 e1 e2 e3 g1 g2 g3 q1 q2 q3 fW f1 f2 fr fq hL hz hx
    rcases hx with ⟨e, _⟩ | ⟨_, x2h, x3h⟩
    · omega
    · rw [show (L : Int) - 1 = 9 by omega] at x2h x3h
      have r2 := fs_rg ⟨by omega, by omega⟩ x2h
      have r3 := fs_rg ⟨by omega, by omega⟩ x3h
      refine wp_b rfl (by omega) (fun e => ?_) (fun e => absurd e (by omega))
      refine wp_c rfl (by omega) [0, 1, 2, 3, 4, 5, 6, 7, 8, 9] (l_kind ht hb hn (fun fW f1 f2 a1 a2 a3 b1 b2 b3 e1 e2 e3 ki hki => ?_)) rfl rfl rfl rfl
      refine wp_h (wG p n a1 a2 a3 b1 b2 b3 e1 e2 e3 g1 g2 g3 q1 q2 q3 br fW f1 f2 fr fq) rfl ?_
      have hk := fs_ki hp x2h x3h hki
      have hr := zr_ki hki
      refine wp_b rfl (by omega) (fun e1 => ?_) (fun e1 => ?_)
      · rw [if_neg e1] at hk
        refine wp_b rfl (by omega) (fun e2 => ?_) (fun e2 => ?_)
        · rw [if_neg e2] at hk
          refine wp_b rfl (by omega) (fun e3 => absurd hk e3) (fun e3 => ?_)
          exact wp_r rfl (by omega) (hQ _ _ _ _ _ _ _ _ _ _ _ _ _ _ _ _ _ _ _ _)
        · rw [if_pos (Classical.byContradiction e2)] at hk
          refine wp_b rfl (by omega) (fun e3 => absurd hk e3) (fun e3 => ?_)
          exact wp_r rfl (by omega) (hQ _ _ _ _ _ _ _ _ _ _ _ _ _ _ _ _ _ _ _ _)
      · rw [if_pos (Classical.byContradiction e1)] at hk
        refine wp_b rfl (by omega) (fun e3 => absurd hk e3) (fun e3 => ?_)
        exact wp_r rfl (by omega) (hQ _ _ _ _ _ _ _ _ _ _ _ _ _ _ _ _ _ _ _ _)
  | succ m ih =>
    intro L x2 x3 z d l bf k v a a1 a2 a3 b1 b2 b3 e1 e2 e3 g1 g2 g3 q1 q2 q3 fW f1 f2 fr fq hL hz hx
    refine wp_b rfl (by omega) (fun e => absurd e (by omega)) (fun e => ?_)
    refine wp_c rfl (by omega) [0, 1, 2, 3, 4, 5, 6, 7, 8, 9] (l_derDim ht hb hn ⟨by omega, by omega⟩ (fun fW f1 f2 a1 a2 a3 b1 b2 b3 e1 e2 e3 dd hdd => ?_)) rfl rfl rfl rfl
    refine wp_h (wG p n a1 a2 a3 b1 b2 b3 e1 e2 e3 g1 g2 g3 q1 q2 q3 br fW f1 f2 fr fq) rfl ?_
    refine wp_c rfl (by omega) [0, 1, 2, 3, 4, 5, 6, 7, 8, 9] (l_lowDim ht hb hn ⟨by omega, by omega⟩ (fun fW f1 f2 a1 a2 a3 b1 b2 b3 e1 e2 e3 ll hll => ?_)) rfl rfl rfl rfl
    refine wp_h (wG p n a1 a2 a3 b1 b2 b3 e1 e2 e3 g1 g2 g3 q1 q2 q3 br fW f1 f2 fr fq) rfl ?_
    have r1 := fs_rg ⟨by omega, by omega⟩ hdd
    have r2 := fs_rg ⟨by omega, by omega⟩ hll
    have r3 := fs_le hp ⟨by omega, by omega⟩ hdd hll
    have hx2 : (dd ≤ x2 ∧ ll ≤ x3) ∧ (0 ≤ x2 ∧ x2 ≤ 5) ∧ (0 ≤ x3 ∧ x3 ≤ 5) := by
      rcases hx with ⟨_, e2, e3⟩ | ⟨e1, x2h, x3h⟩
      · omega
      · have a1 := fs_mono hp (l := (L : Int) - 1) ⟨by omega, by omega⟩ x2h (by rw [show (L : Int) - 1 + 1 = z by omega]; exact hdd)
        have a2 := fs_mono hp (l := (L : Int) - 1) ⟨by omega, by omega⟩ x3h (by rw [show (L : Int) - 1 + 1 = z by omega]; exact hll)
        have a3 := fs_rg ⟨by omega, by omega⟩ x2h
        have a4 := fs_rg ⟨by omega, by omega⟩ x3h
        omega
    have rest : pj_WP X m_Lw_falls 60 [.inr 0, .inl n, .inl x2, .inl x3, .inl z, .inl dd, .inl ll, bf, k, v, a] [] (wG p n a1 a2 a3 b1 b2 b3 e1 e2 e3 g1 g2 g3 q1 q2 q3 br fW f1 f2 fr fq) Q := by
      refine wp_c rfl (by omega) [0, 1, 2, 3, 4, 5, 6, 7, 8, 9] (l_derVec ht hb hn ⟨by omega, by omega⟩ ⟨by omega, by omega⟩ (fun fW f1 f2 a1 a2 a3 b1 b2 b3 e1 e2 e3 y hy => ?_)) rfl rfl rfl rfl
      have hy9 := fs_none hp ⟨by omega, by omega⟩ hdd hy
      refine wp_h (wG p n a1 a2 a3 b1 b2 b3 e1 e2 e3 g1 g2 g3 q1 q2 q3 br fW f1 f2 fr fq) rfl ?_
      refine wp_b rfl (by omega) (fun e => ?_) (fun e => absurd hy9 e)
      refine wp_g rfl (by omega) ?_
      refine g_f2 ht hb hn ⟨by omega, by omega⟩ hdd (fun a1 a2 a3 b1 b2 b3 e1 e2 e3 g1 g2 g3 q1 q2 q3 fW f1 f2 fr fq bf k v a => ?_) dd.toNat 0 _ _ _ _ _ _ _ _ _ _ _ _ _ _ _ _ _ _ _ _ _ _ _ _ (by omega) (by omega) (Or.inl ⟨rfl, rfl⟩)
      refine wp_g rfl (by omega) ?_
      exact ih (L + 1) _ _ _ _ _ _ _ _ _ _ _ _ _ _ _ _ _ _ _ _ _ _ _ _ _ _ _ _ _ (by omega) (by omega) (Or.inr ⟨by omega, by rw [show ((L + 1 : Nat) : Int) - 1 = z by omega]; exact hdd, by rw [show ((L + 1 : Nat) : Int) - 1 = z by omega]; exact hll⟩)
    refine wp_b rfl (by omega) (fun e => absurd e (by omega)) (fun e => ?_)
    refine wp_b rfl (by omega) (fun e => absurd e (by omega)) (fun e => ?_)
    refine wp_b rfl (by omega) (fun e => absurd e (by omega)) (fun e => ?_)
    refine wp_b rfl (by omega) (fun e => rest) (fun e => ?_)
    have hz0 : z = 0 := Classical.byContradiction e
    have hdn := fs_0 hp (by rw [← hz0]; exact hdd)
    refine wp_b rfl (by omega) (fun e => absurd (by omega : dd = n) e) (fun e => rest)
/-- falls(o, n) -/
theorem g_falls (ht : tt_ok p N T) (hb : tt_br p N T br) (hn : n = N) (hQ : ∀ (a1 a2 a3 b1 b2 b3 e1 e2 e3 g1 g2 g3 q1 q2 q3 : Int) (fW f1 f2 fr fq : Nat → Int), Q (some (.inl 1)) (wG p n a1 a2 a3 b1 b2 b3 e1 e2 e3 g1 g2 g3 q1 q2 q3 br fW f1 f2 fr fq)) : pj_ci X m_Lw_falls [.inr 0, .inl n] (wG p n a1 a2 a3 b1 b2 b3 e1 e2 e3 g1 g2 g3 q1 q2 q3 br fW f1 f2 fr fq) Q := by
  refine wp_g rfl (by omega) ?_
  exact g_f1 ht hb hn hQ 10 0 _ _ _ _ _ _ _ _ _ _ _ _ _ _ _ _ _ _ _ _ _ _ _ _ _ _ _ _ _ (by omega) (by omega) (Or.inl ⟨rfl, rfl, rfl⟩)
end FAL
