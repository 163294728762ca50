/-! LieAlgebra: maps, bracket, Jacobi -/
abbrev w_Y (p n : Int) (br : Nat → Int) (a1 a2 a3 : Int) (fr : Nat → Int) (b1 b2 b3 : Int) (fq : Nat → Int) : List pj_C := [c_Li (.inr 1) v_u (.inr 3) v_u v_u v_u v_u v_u, c_T (.inl p) (.inl n) (.inr 2), c_A 25 br, c_Mp (.inr 1) (.inr 4) (.inr 6), c_S (.inl 5) (.inr 5) (.inl a1) (.inl a2) (.inl a3), c_A 30 fr, c_S (.inl 25) (.inr 7) (.inl b1) (.inl b2) (.inl b3), c_A 650 fq]
section LMP
variable {X : pj_X} {Q : pj_Q} {p n : Int} {w N : Nat} {T : Nat → Nat → Nat → Int} {s br : Nat → Int}
theorem l_killing (ht : tt_ok p N T) (hb : tt_br p N T br) (hn : n = N) {u v : Int} (hu : pj_rg u) (hv : pj_rg v) {fr fq : Nat → Int} {a1 a2 a3 b1 b2 b3 : Int}
    (hQ : ∀ (fr fq : Nat → Int) (a1 a2 a3 b1 b2 b3 z : Int), an_kl p N T u v z → Q (some (.inl z)) (w_Y p n br a1 a2 a3 fr b1 b2 b3 fq)) : pj_ci X m_Li_killing [.inr 0, .inl u, .inl v] (w_Y p n br a1 a2 a3 fr b1 b2 b3 fq) Q := by
  obtain ⟨hp, h1N, hN, hT, -⟩ := id ht
  have hpw := nn_pwle hp N hN
  obtain ⟨u1, u2⟩ := id hu
  obtain ⟨v1, v2⟩ := id hv
  refine wp_c rfl (by omega) [1] (c_hasVector hp hu hN hn (fun ua ub => ?_) (fun ua => ?_)) rfl rfl rfl rfl
  · refine wp_b rfl (by omega) (fun c => absurd c (by omega)) (fun _ => ?_)
    refine wp_c rfl (by omega) [1] (c_hasVector hp hv hN hn (fun va vb => ?_) (fun va => ?_)) rfl rfl rfl rfl
    · refine wp_b rfl (by omega) (fun _ => ?_) (fun c => absurd c (by omega))
      refine wp_c rfl (by omega) [3, 1, 2] (c_trace ht hb hn ⟨ua, by omega⟩ ⟨va, by omega⟩ ?_) rfl rfl rfl rfl
      exact wp_r rfl (by omega) (hQ _ _ _ _ _ _ _ _ _ (Or.inr ⟨⟨by omega, by omega, by omega, by omega⟩, rfl⟩))
    · refine wp_b rfl (by omega) (fun c => absurd c (by omega)) (fun _ => ?_)
      exact wp_r rfl (by omega) (hQ _ _ _ _ _ _ _ _ _ (Or.inl ⟨by omega, rfl⟩))
  · refine wp_b rfl (by omega) (fun _ => ?_) (fun c => absurd c (by omega))
    exact wp_r rfl (by omega) (hQ _ _ _ _ _ _ _ _ _ (Or.inl ⟨by omega, rfl⟩))
theorem l_killRad (ht : tt_ok p N T) (hb : tt_br p N T br) (hn : n = N) {fr fq : Nat → Int} {a1 a2 a3 b1 b2 b3 : Int}
    (hQ : ∀ (fr fq : Nat → Int) (a1 a2 a3 b1 b2 b3 z : Int), an_kr p N T z → Q (some (.inl z)) (w_Y p n br a1 a2 a3 fr b1 b2 b3 fq)) : pj_ci X m_Li_killingRadicalDimension [.inr 0] (w_Y p n br a1 a2 a3 fr b1 b2 b3 fq) Q := by
  obtain ⟨hp, h1N, hN, hT, -⟩ := id ht
  have hpw := nn_pwle hp N hN
  refine wp_c rfl (by omega) [3, 1, 2, 4, 5] (c_radical ht hb hn (fun f sz hok hg => ?_)) rfl rfl rfl rfl
  refine wp_h (w_Y p n br p n sz f b1 b2 b3 fq) rfl ?_
  exact wp_r rfl (by omega) (hQ _ _ _ _ _ _ _ _ _ (⟨_, hok.1, hg, by rw [hn, hok.2.2]⟩))
theorem l_derivation (ht : tt_ok p N T) (hb : tt_br p N T br) (hn : n = N) {fr fq : Nat → Int} {a1 a2 a3 b1 b2 b3 : Int}
    (hQ : ∀ (fr fq : Nat → Int) (a1 a2 a3 b1 b2 b3 z : Int), an_de p N T z → Q (some (.inl z)) (w_Y p n br a1 a2 a3 fr b1 b2 b3 fq)) : pj_ci X m_Li_derivationDimension [.inr 0] (w_Y p n br a1 a2 a3 fr b1 b2 b3 fq) Q := by
  obtain ⟨hp, h1N, hN, hT, -⟩ := id ht
  have hpw := nn_pwle hp N hN
  refine wp_c rfl (by omega) [3, 1, 2, 6, 7] (c_derivation ht hb hn (fun f sz hok => ?_)) rfl rfl rfl rfl
  refine wp_h (w_Y p n br a1 a2 a3 fr p ((N * N : Nat) : Int) sz f) rfl ?_
  refine wp_r rfl (by omega) (hQ _ _ _ _ _ _ _ _ _ (⟨_, hok.1.1, fun K hK => (hok.2 K hK).trans ?_, ?_⟩))
  · refine ⟨fun h i j r h1 h2 h3 => h i j r h1 h2 h3 (Or.inl (by omega)), fun h i j r h1 h2 h3 _ => h i j r h1 h2 h3⟩
  · rw [hn, hok.1.2.2, Int.natCast_mul]
theorem l_bracket (ht : tt_ok p N T) (hb : tt_br p N T br) (hn : n = N) {u v : Int} (hu : pj_rg u) (hv : pj_rg v) 
    (hQ : ∀ (z : Int), an_br p N T u v z → Q (some (.inl z)) (w_J p n br)) : pj_ci X m_Li_bracket [.inr 0, .inl u, .inl v] (w_J p n br) Q := by
  obtain ⟨hp, h1N, hN, hT, -⟩ := id ht
  have hpw := nn_pwle hp N hN
  obtain ⟨u1, u2⟩ := id hu
  obtain ⟨v1, v2⟩ := id hv
  exact c_bracket ht hb hn hu hv (fun a b c d => hQ _ (Or.inr ⟨⟨a, b, c, d⟩, rfl⟩)) (fun a => hQ _ (Or.inl ⟨a, rfl⟩))
theorem l_jacobi (ht : tt_ok p N T) (hb : tt_br p N T br) (hn : n = N) 
    (hQ : ∀ (z : Int), an_jf p N T z → Q (some (.inl z)) (w_J p n br)) : pj_ci X m_Li_jacobiFailure [.inr 0] (w_J p n br) Q := by
  obtain ⟨hp, h1N, hN, hT, -⟩ := id ht
  have hpw := nn_pwle hp N hN
  exact c_jacobiFailure ht hb hn (fun I J K a b c d e => hQ _ (Or.inl ⟨I, J, K, a, b, c, d, e, rfl⟩)) (fun a => hQ _ (Or.inr ⟨a, rfl⟩))
end LMP
