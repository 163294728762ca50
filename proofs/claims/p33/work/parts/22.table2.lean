/-! arrays, entries of the table, its writes -/
section TABLE2
variable {X : pj_X} {Q : pj_Q}
/-- LieAlgebra.at(cells, index) -/
theorem c_at {len : Nat} {f : Nat → Int} {i : Int} {I : Nat} (hlen : len ≤ 100000) (hi : i = I) (hI : I < len) (hQ : Q (some (.inl (f I))) [c_A len f]) : pj_ci X m_Li_at [.inr 0, .inl i] [c_A len f] Q := by
  refine wp_b rfl (by omega) (fun c => absurd c (by omega)) (fun c => ?_)
  refine wp_b rfl (by omega) (fun c => absurd c (by omega)) (fun c => ?_)
  refine wp_r rfl (by omega) ?_
  rw [show i.toNat = I by omega]
  exact hQ
/-- LieAlgebra.put(cells, index, x) -/
theorem c_put {len : Nat} {f : Nat → Int} {i z : Int} {I : Nat} (hlen : len ≤ 100000) (hi : i = I) (hI : I < len) (hQ : Q none [c_A len (pj_up f I z)]) : pj_ci X m_Li_put [.inr 0, .inl i, .inl z] [c_A len f] Q := by
  refine wp_b rfl (by omega) (fun c => absurd c (by omega)) (fun c => ?_)
  refine wp_b rfl (by omega) (fun c => absurd c (by omega)) (fun c => ?_)
  refine wp_r rfl (by omega) ?_
  have e : i.toNat = I := by omega
  show Q none [c_A len (pj_up f i.toNat z)]
  rw [e]
  exact hQ
/-- entry(i, j) -/
theorem c_entry {br : Nat → Int} {i j : Int} {I J : Nat} (hi : i = I) (hj : j = J) (hI : I < 5) (hJ : J < 5) (hQ : Q (some (.inl (br (5 * I + J)))) [c_T v_u v_u (.inr 1), c_A 25 br]) : pj_ci X m_Table_entry [.inr 0, .inl i, .inl j] [c_T v_u v_u (.inr 1), c_A 25 br] Q := by
  refine wp_c rfl (by omega) [1] (c_at (I := 5 * I + J) (by omega) (by omega) (by omega) ?_) rfl rfl rfl rfl
  exact wp_r rfl (by omega) hQ
/-- setEntry(i, j, value): the entry and its negative -/
theorem c_setEntry {p n : Int} {N : Nat} {br : Nat → Int} {i j v : Int} {I J : Nat} (hp : nn_p p) (hN : N ≤ 5) (hn : n = N) (hi : i = I) (hj : j = J) (hI : I < 5) (hJ : J < 5) (hv : 0 ≤ v ∧ v ≤ 2147483647) (hQ : Q none [c_T (.inl p) (.inl n) (.inr 1), c_A 25 (pj_up (pj_up br (5 * I + J) v) (5 * J + I) (nn_plus p N 0 v (-1)))]) : pj_ci X m_Table_setEntry [.inr 0, .inl i, .inl j, .inl v] [c_T (.inl p) (.inl n) (.inr 1), c_A 25 br] Q := by
  refine wp_c rfl (by omega) [1] (c_put (I := 5 * I + J) (by omega) (by omega) (by omega) ?_) rfl rfl rfl rfl
  refine wp_c rfl (by omega) [0] (c_plus hp hN hn (by omega) hv (by unfold pj_rg; omega) ?_) rfl rfl rfl rfl
  refine wp_c rfl (by omega) [1] (c_put (I := 5 * J + I) (by omega) (by omega) (by omega) ?_) rfl rfl rfl rfl
  exact wp_r rfl (by omega) hQ
theorem c_fill_loop {len : Nat} {f : Nat → Int} {z : Int} (hlen : len ≤ 100000) (hQ : Q none [c_A len (fun k => if k < len then z else f k)]) :
    ∀ (m k : Nat) (g : Nat → Int) (x : Int), k + m = len → x = k → (∀ j, g j = if j < k then z else f j) → pj_WP X m_Arrays_fill 5 [.inr 0, .inl z, .inl x, .inl (len : Int)] [] [c_A len g] Q := by
  intro m
  induction m with
  | zero =>
    intro k g x hk hx hg
    refine wp_b rfl (by omega) (fun c => ?_) (fun c => absurd c (by omega))
    refine wp_r rfl (by omega) ?_
    have e : g = fun k => if k < len then z else f k := by
      funext j
      rw [hg j, show k = len by omega]
    rw [e]
    exact hQ
  | succ m ih =>
    intro k g x hk hx hg
    refine wp_b rfl (by omega) (fun c => absurd c (by omega)) (fun c => ?_)
    refine wp_g rfl (by omega) ?_
    refine ih (k + 1) _ _ (by omega) (by omega) (fun j => ?_)
    have e : x.toNat = k := by omega
    simp only [pj_up, e, hg j]
    by_cases h : j = k
    · rw [if_pos h, if_pos (by omega)]
    · rw [if_neg h]
      by_cases h2 : j < k
      · rw [if_pos h2, if_pos (by omega)]
      · rw [if_neg h2, if_neg (by omega)]
/-- Arrays.fill -/
theorem c_fill {len : Nat} {f : Nat → Int} {z : Int} (hlen : len ≤ 100000) (hQ : Q none [c_A len (fun k => if k < len then z else f k)]) : pj_ci X m_Arrays_fill [.inr 0, .inl z] [c_A len f] Q := by
  refine wp_g rfl (by omega) ?_
  exact c_fill_loop hlen hQ len 0 f _ (by omega) (by omega) (fun j => by rw [if_neg (by omega)])
/-- begin(p, n) -/
theorem c_Tbegin {p' n' : Int} {br : Nat → Int} (hQ : Q none [c_T (.inl p') (.inl n') (.inr 1), c_A 25 (fun k => if k < 25 then 0 else br k)]) : pj_ci X m_Table_begin [.inr 0, .inl p', .inl n'] [c_T v_u v_u (.inr 1), c_A 25 br] Q := by
  refine wp_c rfl (by omega) [1] (c_fill (by omega) ?_) rfl rfl rfl rfl
  exact wp_r rfl (by omega) hQ
/-- copyFrom(other) -/
theorem c_copyFrom {p' n' : Int} {br br' : Nat → Int} (hQ : Q none [c_T (.inl p') (.inl n') (.inr 1), c_A 25 (va_cpy br' br 0 0 25), c_T (.inl p') (.inl n') (.inr 3), c_A 25 br']) : pj_ci X m_Table_copyFrom [.inr 0, .inr 2] [c_T v_u v_u (.inr 1), c_A 25 br, c_T (.inl p') (.inl n') (.inr 3), c_A 25 br'] Q := by
  exact wp_r rfl (by omega) hQ
theorem nn_inv_ex {p : Int} (hp : nn_p p) : ∀ x : Int, 1 ≤ x → x < p → ∃ y : Int, 1 ≤ y ∧ y < p ∧ y * x % p = 1 := by
  intro x h1 h2
  rcases hp with rfl | rfl | rfl | rfl
  · rcases (show x = 1 by omega) with rfl
    exact ⟨1, by decide⟩
  · rcases (show x = 1 ∨ x = 2 by omega) with rfl | rfl
    · exact ⟨1, by decide⟩
    · exact ⟨2, by decide⟩
  · rcases (show x = 1 ∨ x = 2 ∨ x = 3 ∨ x = 4 by omega) with rfl | rfl | rfl | rfl
    · exact ⟨1, by decide⟩
    · exact ⟨3, by decide⟩
    · exact ⟨2, by decide⟩
    · exact ⟨4, by decide⟩
  · rcases (show x = 1 ∨ x = 2 ∨ x = 3 ∨ x = 4 ∨ x = 5 ∨ x = 6 by omega) with rfl | rfl | rfl | rfl | rfl | rfl
    · exact ⟨1, by decide⟩
    · exact ⟨4, by decide⟩
    · exact ⟨5, by decide⟩
    · exact ⟨2, by decide⟩
    · exact ⟨3, by decide⟩
    · exact ⟨6, by decide⟩
theorem c_inverse_loop {p x : Int} (hp : nn_p p) (hx : 1 ≤ x ∧ x < p) (hQ : ∀ y : Int, 1 ≤ y → y < p → y * x % p = 1 → Q (some (.inl y)) []) :
    ∀ (m : Nat) (k : Int), k + m = p → 1 ≤ k → (∀ j : Int, 1 ≤ j → j < k → j * x % p ≠ 1) → pj_WP X m_Li_inverse 2 [.inl x, .inl p, .inl k] [] [] Q := by
  obtain ⟨hp1, hp2, hp3⟩ := nn_p_pos hp
  intro m
  induction m with
  | zero =>
    intro k hk h1 hno
    obtain ⟨y, a, b, c⟩ := nn_inv_ex hp x hx.1 hx.2
    exact absurd c (hno y a (by omega))
  | succ m ih =>
    intro k hk h1 hno
    have hr := nn_f7 hp (f := k) (x := x) ⟨by omega, by omega⟩ ⟨by omega, by omega⟩
    have e1 : (k * x).tmod p = k * x % p := Int.tmod_eq_emod_of_nonneg hr.1
    have e2 := Int.emod_nonneg (k * x) (show p ≠ 0 by omega)
    have e3 := Int.emod_lt_of_pos (k * x) hp1
    refine wp_b rfl (by omega) (fun c => absurd c (by omega)) (fun c => ?_)
    refine wp_b rfl (by omega) (fun c => ?_) (fun c => ?_)
    · refine wp_g rfl (by omega) ?_
      refine ih (k + 1) (by omega) (by omega) (fun j h2 h3 => ?_)
      by_cases hj : j = k
      · subst hj
        rw [← e1]
        exact c
      · exact hno j h2 (by omega)
    · refine wp_r rfl (by omega) ?_
      exact hQ k h1 (by omega) (by rw [← e1]; exact Decidable.of_not_not c)
/-- LieAlgebra.inverse(x, p) -/
theorem c_inverse {p x : Int} (hp : nn_p p) (hx : 1 ≤ x ∧ x < p) (hQ : ∀ y : Int, 1 ≤ y → y < p → y * x % p = 1 → Q (some (.inl y)) []) : pj_ci X m_Li_inverse [.inl x, .inl p] [] Q := by
  have := (nn_p_pos hp).2.1
  refine wp_g rfl (by omega) ?_
  exact c_inverse_loop hp hx hQ (p - 1).toNat 1 (by omega) (by omega) (fun j h1 h2 => by omega)
end TABLE2
