/-! test -/
theorem c_power_loop {X : pj_X} {Q : Option pj_V → List pj_C → Prop} (p i : Int) (E : Nat) (hE : E ≤ 5) (hi : pj_rg i) (hE2 : (E : Int) = i ∨ (E = 5 ∧ 5 ≤ i) ∨ (E = 0 ∧ i ≤ 0)) (hQ : Q (some (.inl (p ^ E))) [.inr (6, [.inl p, .inr 1000, .inr 1000])]) :
    ∀ (m k : Nat) (r z : Int), k + m = E → z = k → r = p ^ k → pj_WP X m_Table_power 4 [.inr 0, .inl i, .inl r, .inl z] [] [.inr (6, [.inl p, .inr 1000, .inr 1000])] Q := by
  intro m
  induction m with
  | zero =>
    intro k r z hk hz hr
    obtain ⟨hi1, hi2⟩ := hi
    refine wp_b rfl (by omega) (fun c => ?_) (fun c => ?_)
    · refine wp_r rfl (by omega) ?_
      rw [hr, show k = E by omega]
      exact hQ
    · refine wp_b rfl (by omega) (fun c => ?_) (fun c => absurd c (by omega))
      refine wp_r rfl (by omega) ?_
      rw [hr, show k = E by omega]
      exact hQ
  | succ m ih =>
    intro k r z hk hz hr
    obtain ⟨hi1, hi2⟩ := hi
    refine wp_b rfl (by omega) (fun c => absurd c (by omega)) (fun c => ?_)
    refine wp_b rfl (by omega) (fun c => absurd c (by omega)) (fun c => ?_)
    refine wp_g rfl (by omega) ?_
    exact ih (k + 1) _ _ (by omega) (by omega) (by rw [hr, Int.pow_succ])
