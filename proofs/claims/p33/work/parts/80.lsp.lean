/-! LieAlgebra: the public methods that the law calls -/
abbrev w_Z (p n : Int) (br : Nat → Int) (a1 a2 a3 : Int) (fW : Nat → Int) (b1 b2 b3 : Int) (f1 : Nat → Int) (e1 e2 e3 : Int) (f2 : Nat → Int) : List pj_C := [c_Li (.inr 1) (.inr 3) v_u v_u v_u v_u v_u v_u, c_T (.inl p) (.inl n) (.inr 2), c_A 25 br, c_Sp (.inr 1) (.inr 4) (.inr 6) (.inr 8), c_S (.inl 5) (.inr 5) (.inl a1) (.inl a2) (.inl a3), c_A 30 fW, c_S (.inl 5) (.inr 7) (.inl b1) (.inl b2) (.inl b3), c_A 30 f1, c_S (.inl 5) (.inr 9) (.inl e1) (.inl e2) (.inl e3), c_A 30 f2]
section LSP
variable {X : pj_X} {Q : pj_Q} {p n : Int} {w N : Nat} {T : Nat → Nat → Nat → Int} {s br : Nat → Int}
theorem l_derDim (ht : tt_ok p N T) (hb : tt_br p N T br) (hn : n = N) {l : Int} (hl : pj_rg l) {fW f1 f2 : Nat → Int} {a1 a2 a3 b1 b2 b3 e1 e2 e3 : Int}
    (hQ : ∀ (fW f1 f2 : Nat → Int) (a1 a2 a3 b1 b2 b3 e1 e2 e3 z : Int), an_dd p N T false l z → Q (some (.inl z)) (w_Z p n br a1 a2 a3 fW b1 b2 b3 f1 e1 e2 e3 f2)) : pj_ci X m_Li_derivedDimension [.inr 0, .inl l] (w_Z p n br a1 a2 a3 fW b1 b2 b3 f1 e1 e2 e3 f2) Q := by
  obtain ⟨hp, h1N, hN, hT, -⟩ := id ht
  have hpw := nn_pwle hp N hN
  obtain ⟨l1, l2⟩ := id hl
  refine wp_b rfl (by omega) (fun c => ?_) (fun c => ?_)
  · exact wp_r rfl (by omega) (hQ _ _ _ _ _ _ _ _ _ _ _ _ _ (Or.inl ⟨by omega, rfl⟩))
  · refine wp_b rfl (by omega) (fun c2 => ?_) (fun c2 => ?_)
    · refine wp_c rfl (by omega) [3, 1, 2, 4, 5, 6, 7, 8, 9] (c_derived ht hb hn (Lv := l.toNat) (by omega) (by omega) (fun fW f1 f2 z1 s1 s2 s3 hok hds => ?_) (fun fW f1 f2 z2 s1 s2 s3 hok hds => ?_)) rfl rfl rfl rfl
      · refine wp_h (w_Z p n br p n n fW p n z1 f1 s1 s2 s3 f2) rfl ?_
        exact wp_r rfl (by omega) (hQ _ _ _ _ _ _ _ _ _ _ _ _ _ (Or.inr ⟨⟨by omega, by omega⟩, _, hds, hok.2.2⟩))
      · refine wp_h (w_Z p n br p n n fW s1 s2 s3 f1 p n z2 f2) rfl ?_
        exact wp_r rfl (by omega) (hQ _ _ _ _ _ _ _ _ _ _ _ _ _ (Or.inr ⟨⟨by omega, by omega⟩, _, hds, hok.2.2⟩))
    · exact wp_r rfl (by omega) (hQ _ _ _ _ _ _ _ _ _ _ _ _ _ (Or.inl ⟨by omega, rfl⟩))
theorem l_lowDim (ht : tt_ok p N T) (hb : tt_br p N T br) (hn : n = N) {l : Int} (hl : pj_rg l) {fW f1 f2 : Nat → Int} {a1 a2 a3 b1 b2 b3 e1 e2 e3 : Int}
    (hQ : ∀ (fW f1 f2 : Nat → Int) (a1 a2 a3 b1 b2 b3 e1 e2 e3 z : Int), an_dd p N T true l z → Q (some (.inl z)) (w_Z p n br a1 a2 a3 fW b1 b2 b3 f1 e1 e2 e3 f2)) : pj_ci X m_Li_lowerCentralDimension [.inr 0, .inl l] (w_Z p n br a1 a2 a3 fW b1 b2 b3 f1 e1 e2 e3 f2) Q := by
  obtain ⟨hp, h1N, hN, hT, -⟩ := id ht
  have hpw := nn_pwle hp N hN
  obtain ⟨l1, l2⟩ := id hl
  refine wp_b rfl (by omega) (fun c => ?_) (fun c => ?_)
  · exact wp_r rfl (by omega) (hQ _ _ _ _ _ _ _ _ _ _ _ _ _ (Or.inl ⟨by omega, rfl⟩))
  · refine wp_b rfl (by omega) (fun c2 => ?_) (fun c2 => ?_)
    · refine wp_c rfl (by omega) [3, 1, 2, 4, 5, 6, 7, 8, 9] (c_lower ht hb hn (Lv := l.toNat) (by omega) (by omega) (fun fW f1 f2 z1 s1 s2 s3 hok hds => ?_) (fun fW f1 f2 z2 s1 s2 s3 hok hds => ?_)) rfl rfl rfl rfl
      · refine wp_h (w_Z p n br p n n fW p n z1 f1 s1 s2 s3 f2) rfl ?_
        exact wp_r rfl (by omega) (hQ _ _ _ _ _ _ _ _ _ _ _ _ _ (Or.inr ⟨⟨by omega, by omega⟩, _, hds, hok.2.2⟩))
      · refine wp_h (w_Z p n br p n n fW s1 s2 s3 f1 p n z2 f2) rfl ?_
        exact wp_r rfl (by omega) (hQ _ _ _ _ _ _ _ _ _ _ _ _ _ (Or.inr ⟨⟨by omega, by omega⟩, _, hds, hok.2.2⟩))
    · exact wp_r rfl (by omega) (hQ _ _ _ _ _ _ _ _ _ _ _ _ _ (Or.inl ⟨by omega, rfl⟩))
theorem l_derVec (ht : tt_ok p N T) (hb : tt_br p N T br) (hn : n = N) {l i : Int} (hl : pj_rg l) (hi : pj_rg i) {fW f1 f2 : Nat → Int} {a1 a2 a3 b1 b2 b3 e1 e2 e3 : Int}
    (hQ : ∀ (fW f1 f2 : Nat → Int) (a1 a2 a3 b1 b2 b3 e1 e2 e3 z : Int), an_dv p N T l i z → Q (some (.inl z)) (w_Z p n br a1 a2 a3 fW b1 b2 b3 f1 e1 e2 e3 f2)) : pj_ci X m_Li_derivedVector [.inr 0, .inl l, .inl i] (w_Z p n br a1 a2 a3 fW b1 b2 b3 f1 e1 e2 e3 f2) Q := by
  obtain ⟨hp, h1N, hN, hT, -⟩ := id ht
  have hpw := nn_pwle hp N hN
  obtain ⟨l1, l2⟩ := id hl
  obtain ⟨i1, i2⟩ := id hi
  refine wp_b rfl (by omega) (fun c => ?_) (fun c => ?_)
  · exact wp_r rfl (by omega) (hQ _ _ _ _ _ _ _ _ _ _ _ _ _ (Or.inl ⟨by omega, rfl⟩))
  · refine wp_b rfl (by omega) (fun c2 => ?_) (fun c2 => ?_)
    · exact wp_r rfl (by omega) (hQ _ _ _ _ _ _ _ _ _ _ _ _ _ (Or.inl ⟨by omega, rfl⟩))
    · refine wp_b rfl (by omega) (fun c3 => ?_) (fun c3 => ?_)
      · refine wp_c rfl (by omega) [3, 1, 2, 4, 5, 6, 7, 8, 9] (c_derived ht hb hn (Lv := l.toNat) (by omega) (by omega) (fun fW f1 f2 z1 s1 s2 s3 hok hds => ?_) (fun fW f1 f2 z2 s1 s2 s3 hok hds => ?_)) rfl rfl rfl rfl
        · refine wp_h (w_Z p n br p n n fW p n z1 f1 s1 s2 s3 f2) rfl ?_
          refine wp_c rfl (by omega) [6, 7] (c_vector (I := i.toNat) hp hn hN (by omega) (by omega) hok.1 (fun r h1 h2 h3 => ?_) (fun h1 => ?_)) rfl rfl rfl rfl
          · refine wp_h (w_Z p n br p n n fW p n z1 f1 s1 s2 s3 f2) rfl ?_
            exact wp_r rfl (by omega) (hQ _ _ _ _ _ _ _ _ _ _ _ _ _ (Or.inr ⟨⟨by omega, by omega, by omega⟩, _, hds, Or.inr ⟨r, h1, h2, h3, rfl⟩⟩))
          · refine wp_h (w_Z p n br p n n fW p n z1 f1 s1 s2 s3 f2) rfl ?_
            exact wp_r rfl (by omega) (hQ _ _ _ _ _ _ _ _ _ _ _ _ _ (Or.inr ⟨⟨by omega, by omega, by omega⟩, _, hds, Or.inl ⟨h1, rfl⟩⟩))
        · refine wp_h (w_Z p n br p n n fW s1 s2 s3 f1 p n z2 f2) rfl ?_
          refine wp_c rfl (by omega) [8, 9] (c_vector (I := i.toNat) hp hn hN (by omega) (by omega) hok.1 (fun r h1 h2 h3 => ?_) (fun h1 => ?_)) rfl rfl rfl rfl
          · refine wp_h (w_Z p n br p n n fW s1 s2 s3 f1 p n z2 f2) rfl ?_
            exact wp_r rfl (by omega) (hQ _ _ _ _ _ _ _ _ _ _ _ _ _ (Or.inr ⟨⟨by omega, by omega, by omega⟩, _, hds, Or.inr ⟨r, h1, h2, h3, rfl⟩⟩))
          · refine wp_h (w_Z p n br p n n fW s1 s2 s3 f1 p n z2 f2) rfl ?_
            exact wp_r rfl (by omega) (hQ _ _ _ _ _ _ _ _ _ _ _ _ _ (Or.inr ⟨⟨by omega, by omega, by omega⟩, _, hds, Or.inl ⟨h1, rfl⟩⟩))
      · exact wp_r rfl (by omega) (hQ _ _ _ _ _ _ _ _ _ _ _ _ _ (Or.inl ⟨by omega, rfl⟩))
theorem l_kind (ht : tt_ok p N T) (hb : tt_br p N T br) (hn : n = N) {fW f1 f2 : Nat → Int} {a1 a2 a3 b1 b2 b3 e1 e2 e3 : Int}
    (hQ : ∀ (fW f1 f2 : Nat → Int) (a1 a2 a3 b1 b2 b3 e1 e2 e3 z : Int), an_ki p N T z → Q (some (.inl z)) (w_Z p n br a1 a2 a3 fW b1 b2 b3 f1 e1 e2 e3 f2)) : pj_ci X m_Li_kind [.inr 0] (w_Z p n br a1 a2 a3 fW b1 b2 b3 f1 e1 e2 e3 f2) Q := by
  obtain ⟨hp, h1N, hN, hT, -⟩ := id ht
  have hpw := nn_pwle hp N hN
  refine wp_c rfl (by omega) [3, 1, 2, 4, 5, 6, 7, 8, 9] (c_lower ht hb hn (Lv := 9) (by omega) (by omega) (fun fW f1 f2 z1 s1 s2 s3 hok hds => ?_) (fun fW f1 f2 z2 s1 s2 s3 hok hds => ?_)) rfl rfl rfl rfl
  · refine wp_h (w_Z p n br p n n fW p n z1 f1 s1 s2 s3 f2) rfl ?_
    obtain ⟨-, -, ez1⟩ := id hok
    have hcw1 := ln_ct_w (sb_R 5 f1) N
    refine wp_b rfl (by omega) (fun c => ?_) (fun c => ?_)
    · refine wp_c rfl (by omega) [3, 1, 2, 4, 5, 6, 7, 8, 9] (c_derived ht hb hn (Lv := 9) (by omega) (by omega) (fun fW f1 f2 z3 s1 s2 s3 hok2 hds2 => ?_) (fun fW f1 f2 z3 s1 s2 s3 hok2 hds2 => ?_)) rfl rfl rfl rfl
      · refine wp_h (w_Z p n br p n n fW p n z3 f1 s1 s2 s3 f2) rfl ?_
        obtain ⟨-, -, ez⟩ := id hok2
        have hcw := ln_ct_w (sb_R 5 f1) N
        refine wp_b rfl (by omega) (fun c9 => ?_) (fun c9 => ?_)
        · exact wp_r rfl (by omega) (hQ _ _ _ _ _ _ _ _ _ _ _ _ _ (Or.inr ⟨_, _, hds, by omega, hds2, by rw [if_neg (by omega)]⟩))
        · exact wp_r rfl (by omega) (hQ _ _ _ _ _ _ _ _ _ _ _ _ _ (Or.inr ⟨_, _, hds, by omega, hds2, by rw [if_pos (by omega)]⟩))
      · refine wp_h (w_Z p n br p n n fW s1 s2 s3 f1 p n z3 f2) rfl ?_
        obtain ⟨-, -, ez⟩ := id hok2
        have hcw := ln_ct_w (sb_R 5 f2) N
        refine wp_b rfl (by omega) (fun c9 => ?_) (fun c9 => ?_)
        · exact wp_r rfl (by omega) (hQ _ _ _ _ _ _ _ _ _ _ _ _ _ (Or.inr ⟨_, _, hds, by omega, hds2, by rw [if_neg (by omega)]⟩))
        · exact wp_r rfl (by omega) (hQ _ _ _ _ _ _ _ _ _ _ _ _ _ (Or.inr ⟨_, _, hds, by omega, hds2, by rw [if_pos (by omega)]⟩))
    · exact wp_r rfl (by omega) (hQ _ _ _ _ _ _ _ _ _ _ _ _ _ (Or.inl ⟨_, hds, by omega, rfl⟩))
  · refine wp_h (w_Z p n br p n n fW s1 s2 s3 f1 p n z2 f2) rfl ?_
    obtain ⟨-, -, ez1⟩ := id hok
    have hcw1 := ln_ct_w (sb_R 5 f2) N
    refine wp_b rfl (by omega) (fun c => ?_) (fun c => ?_)
    · refine wp_c rfl (by omega) [3, 1, 2, 4, 5, 6, 7, 8, 9] (c_derived ht hb hn (Lv := 9) (by omega) (by omega) (fun fW f1 f2 z3 s1 s2 s3 hok2 hds2 => ?_) (fun fW f1 f2 z3 s1 s2 s3 hok2 hds2 => ?_)) rfl rfl rfl rfl
      · refine wp_h (w_Z p n br p n n fW p n z3 f1 s1 s2 s3 f2) rfl ?_
        obtain ⟨-, -, ez⟩ := id hok2
        have hcw := ln_ct_w (sb_R 5 f1) N
        refine wp_b rfl (by omega) (fun c9 => ?_) (fun c9 => ?_)
        · exact wp_r rfl (by omega) (hQ _ _ _ _ _ _ _ _ _ _ _ _ _ (Or.inr ⟨_, _, hds, by omega, hds2, by rw [if_neg (by omega)]⟩))
        · exact wp_r rfl (by omega) (hQ _ _ _ _ _ _ _ _ _ _ _ _ _ (Or.inr ⟨_, _, hds, by omega, hds2, by rw [if_pos (by omega)]⟩))
      · refine wp_h (w_Z p n br p n n fW s1 s2 s3 f1 p n z3 f2) rfl ?_
        obtain ⟨-, -, ez⟩ := id hok2
        have hcw := ln_ct_w (sb_R 5 f2) N
        refine wp_b rfl (by omega) (fun c9 => ?_) (fun c9 => ?_)
        · exact wp_r rfl (by omega) (hQ _ _ _ _ _ _ _ _ _ _ _ _ _ (Or.inr ⟨_, _, hds, by omega, hds2, by rw [if_neg (by omega)]⟩))
        · exact wp_r rfl (by omega) (hQ _ _ _ _ _ _ _ _ _ _ _ _ _ (Or.inr ⟨_, _, hds, by omega, hds2, by rw [if_pos (by omega)]⟩))
    · exact wp_r rfl (by omega) (hQ _ _ _ _ _ _ _ _ _ _ _ _ _ (Or.inl ⟨_, hds, by omega, rfl⟩))
theorem l_cenDim (ht : tt_ok p N T) (hb : tt_br p N T br) (hn : n = N) {fW f1 f2 : Nat → Int} {a1 a2 a3 b1 b2 b3 e1 e2 e3 : Int}
    (hQ : ∀ (fW f1 f2 : Nat → Int) (a1 a2 a3 b1 b2 b3 e1 e2 e3 z : Int), an_cd p N T z → Q (some (.inl z)) (w_Z p n br a1 a2 a3 fW b1 b2 b3 f1 e1 e2 e3 f2)) : pj_ci X m_Li_centerDimension [.inr 0] (w_Z p n br a1 a2 a3 fW b1 b2 b3 f1 e1 e2 e3 f2) Q := by
  obtain ⟨hp, h1N, hN, hT, -⟩ := id ht
  have hpw := nn_pwle hp N hN
  refine wp_c rfl (by omega) [3, 1, 2, 6, 7, 8, 9] (c_center ht hb hn (fun g f2 z1 z2 hok hds => ?_)) rfl rfl rfl rfl
  refine wp_h (w_Z p n br a1 a2 a3 fW p n z1 g p n z2 f2) rfl ?_
  exact wp_r rfl (by omega) (hQ _ _ _ _ _ _ _ _ _ _ _ _ _ (⟨_, hds, hok.2.2⟩))
theorem l_czDim (ht : tt_ok p N T) (hb : tt_br p N T br) (hn : n = N) {v : Int} (hv : pj_rg v) {fW f1 f2 : Nat → Int} {a1 a2 a3 b1 b2 b3 e1 e2 e3 : Int}
    (hQ : ∀ (fW f1 f2 : Nat → Int) (a1 a2 a3 b1 b2 b3 e1 e2 e3 z : Int), an_cz p N T v z → Q (some (.inl z)) (w_Z p n br a1 a2 a3 fW b1 b2 b3 f1 e1 e2 e3 f2)) : pj_ci X m_Li_centralizerDimension [.inr 0, .inl v] (w_Z p n br a1 a2 a3 fW b1 b2 b3 f1 e1 e2 e3 f2) Q := by
  obtain ⟨hp, h1N, hN, hT, -⟩ := id ht
  have hpw := nn_pwle hp N hN
  obtain ⟨v1, v2⟩ := id hv
  refine wp_c rfl (by omega) [1] (c_hasVector hp hv hN hn (fun va vb => ?_) (fun va => ?_)) rfl rfl rfl rfl
  · refine wp_b rfl (by omega) (fun _ => ?_) (fun c => absurd c (by omega))
    refine wp_c rfl (by omega) [3, 1, 2, 6, 7] (c_brWith ht hb hn ⟨va, by omega⟩ (fun f' z' hok hds => ?_)) rfl rfl rfl rfl
    refine wp_h (w_Z p n br a1 a2 a3 fW p n z' f' e1 e2 e3 f2) rfl ?_
    have hcw := ln_ct_w (sb_R 5 f') N
    obtain ⟨-, -, ez⟩ := id hok
    exact wp_r rfl (by omega) (hQ _ _ _ _ _ _ _ _ _ _ _ _ _ (Or.inr ⟨⟨by omega, by omega⟩, _, hds, by omega⟩))
  · refine wp_b rfl (by omega) (fun c => absurd c (by omega)) (fun _ => ?_)
    exact wp_r rfl (by omega) (hQ _ _ _ _ _ _ _ _ _ _ _ _ _ (Or.inl ⟨by omega, rfl⟩))
theorem l_idealDim (ht : tt_ok p N T) (hb : tt_br p N T br) (hn : n = N) {v : Int} (hv : pj_rg v) {fW f1 f2 : Nat → Int} {a1 a2 a3 b1 b2 b3 e1 e2 e3 : Int}
    (hQ : ∀ (fW f1 f2 : Nat → Int) (a1 a2 a3 b1 b2 b3 e1 e2 e3 z : Int), an_id p N T v z → Q (some (.inl z)) (w_Z p n br a1 a2 a3 fW b1 b2 b3 f1 e1 e2 e3 f2)) : pj_ci X m_Li_idealDimension [.inr 0, .inl v] (w_Z p n br a1 a2 a3 fW b1 b2 b3 f1 e1 e2 e3 f2) Q := by
  obtain ⟨hp, h1N, hN, hT, -⟩ := id ht
  have hpw := nn_pwle hp N hN
  obtain ⟨v1, v2⟩ := id hv
  refine wp_c rfl (by omega) [1] (c_hasVector hp hv hN hn (fun va vb => ?_) (fun va => ?_)) rfl rfl rfl rfl
  · refine wp_b rfl (by omega) (fun _ => ?_) (fun c => absurd c (by omega))
    refine wp_c rfl (by omega) [3, 1, 2, 4, 5, 6, 7] (c_ideal ht hb hn ⟨va, by omega⟩ (fun fW' f' z' hok hds => ?_)) rfl rfl rfl rfl
    refine wp_h (w_Z p n br p n n fW' p n z' f' e1 e2 e3 f2) rfl ?_
    exact wp_r rfl (by omega) (hQ _ _ _ _ _ _ _ _ _ _ _ _ _ (Or.inr ⟨⟨by omega, by omega⟩, _, hds, hok.2.2⟩))
  · refine wp_b rfl (by omega) (fun c => absurd c (by omega)) (fun _ => ?_)
    exact wp_r rfl (by omega) (hQ _ _ _ _ _ _ _ _ _ _ _ _ _ (Or.inl ⟨by omega, rfl⟩))
theorem l_subDim (ht : tt_ok p N T) (hb : tt_br p N T br) (hn : n = N) {u v : Int} (hu : pj_rg u) (hv : pj_rg v) {fW f1 f2 : Nat → Int} {a1 a2 a3 b1 b2 b3 e1 e2 e3 : Int}
    (hQ : ∀ (fW f1 f2 : Nat → Int) (a1 a2 a3 b1 b2 b3 e1 e2 e3 z : Int), an_sd p N T u v z → Q (some (.inl z)) (w_Z p n br a1 a2 a3 fW b1 b2 b3 f1 e1 e2 e3 f2)) : pj_ci X m_Li_subalgebraDimension [.inr 0, .inl u, .inl v] (w_Z p n br a1 a2 a3 fW b1 b2 b3 f1 e1 e2 e3 f2) Q := by
  obtain ⟨hp, h1N, hN, hT, -⟩ := id ht
  have hpw := nn_pwle hp N hN
  obtain ⟨u1, u2⟩ := id hu
  obtain ⟨v1, v2⟩ := id hv
  refine wp_c rfl (by omega) [1] (c_hasVector hp hu hN hn (fun ua ub => ?_) (fun ua => ?_)) rfl rfl rfl rfl
  · refine wp_b rfl (by omega) (fun c => absurd c (by omega)) (fun _ => ?_)
    refine wp_c rfl (by omega) [1] (c_hasVector hp hv hN hn (fun va vb => ?_) (fun va => ?_)) rfl rfl rfl rfl
    · refine wp_b rfl (by omega) (fun _ => ?_) (fun c => absurd c (by omega))
      refine wp_c rfl (by omega) [3, 1, 2, 6, 7] (c_subalg ht hb hn ⟨ua, by omega⟩ ⟨va, by omega⟩ (fun f' z' hok hds => ?_)) rfl rfl rfl rfl
      refine wp_h (w_Z p n br a1 a2 a3 fW p n z' f' e1 e2 e3 f2) rfl ?_
      exact wp_r rfl (by omega) (hQ _ _ _ _ _ _ _ _ _ _ _ _ _ (Or.inr ⟨⟨by omega, by omega, by omega, by omega⟩, _, hds, hok.2.2⟩))
    · refine wp_b rfl (by omega) (fun c => absurd c (by omega)) (fun _ => ?_)
      exact wp_r rfl (by omega) (hQ _ _ _ _ _ _ _ _ _ _ _ _ _ (Or.inl ⟨by omega, rfl⟩))
  · refine wp_b rfl (by omega) (fun _ => ?_) (fun c => absurd c (by omega))
    exact wp_r rfl (by omega) (hQ _ _ _ _ _ _ _ _ _ _ _ _ _ (Or.inl ⟨by omega, rfl⟩))
end LSP
