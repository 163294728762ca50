/-! LieAlgebra: prime, dimension, bracket -/
section LIE2
variable {X : pj_X} {Q : pj_Q} {p n : Int} {N : Nat} {T : Nat → Nat → Nat → Int} {br : Nat → Int}
theorem c_prime (hQ : Q (some (.inl p)) (w_J p n br)) : pj_ci X m_Li_prime [.inr 0] (w_J p n br) Q := wp_r rfl (by omega) hQ
theorem c_dimension (hQ : Q (some (.inl n)) (w_J p n br)) : pj_ci X m_Li_dimension [.inr 0] (w_J p n br) Q := wp_r rfl (by omega) hQ
/-- bracket(u, v) -/
theorem c_bracket (ht : tt_ok p N T) (hb : tt_br p N T br) (hn : n = N) {u v : Int} (hu : pj_rg u) (hv : pj_rg v)
    (h1 : 0 ≤ u → u < p ^ N → 0 ≤ v → v < p ^ N → Q (some (.inl (nn_nm p N (tt_bk p N T (nn_dg p u) (nn_dg p v))))) (w_J p n br))
    (h0 : ¬ (0 ≤ u ∧ u < p ^ N ∧ 0 ≤ v ∧ v < p ^ N) → Q (some (.inl (-1))) (w_J p n br)) : pj_ci X m_Li_bracket [.inr 0, .inl u, .inl v] (w_J p n br) Q := by
  obtain ⟨hp, h1N, hN, hT, -⟩ := id ht
  have hpw := nn_pwle hp N hN
  refine wp_c rfl (by omega) [1] (c_hasVector hp hu hN hn (fun a b => ?_) (fun a => ?_)) rfl rfl rfl rfl
  · refine wp_b rfl (by omega) (fun c => absurd c (by omega)) (fun c => ?_)
    refine wp_c rfl (by omega) [1] (c_hasVector hp hv hN hn (fun a2 b2 => ?_) (fun a2 => ?_)) rfl rfl rfl rfl
    · refine wp_b rfl (by omega) (fun c => ?_) (fun c => absurd c (by omega))
      refine wp_c rfl (by omega) [1, 2] (c_product ht hb hn ⟨a, by omega⟩ ⟨a2, by omega⟩ ?_) rfl rfl rfl rfl
      exact wp_r rfl (by omega) (h1 a b a2 b2)
    · refine wp_b rfl (by omega) (fun c => absurd c (by omega)) (fun c => ?_)
      exact wp_r rfl (by omega) (h0 (by omega))
  · refine wp_b rfl (by omega) (fun c => ?_) (fun c => absurd c (by omega))
    exact wp_r rfl (by omega) (h0 (by omega))
end LIE2
