/-! Table: its reads -/
abbrev pj_Q : Type := Option pj_V → List pj_C → Prop
abbrev v_u : pj_V := .inr 1000
abbrev c_T (p n b : pj_V) : pj_C := .inr (6, [p, n, b])
abbrev c_A (len : Nat) (f : Nat → Int) : pj_C := .inl (0, len, f)
section TABLE
variable {X : pj_X} {Q : pj_Q} {p n : Int}
theorem c_power_loop {i : Int} {E : Nat} (hE : E ≤ 5) (hi : i = E) (hQ : Q (some (.inl (p ^ E))) [c_T (.inl p) v_u v_u]) :
    ∀ (m k : Nat) (r z : Int), k + m = E → z = k → r = p ^ k → pj_WP X m_Table_power 4 [.inr 0, .inl i, .inl r, .inl z] [] [c_T (.inl p) v_u v_u] Q := by
  intro m
  induction m with
  | zero =>
    intro k r z hk hz hr
    refine wp_b rfl (by omega) (fun c => ?_) (fun c => absurd c (by omega))
    refine wp_r rfl (by omega) ?_
    rw [hr, show k = E by omega]
    exact hQ
  | succ m ih =>
    intro k r z hk hz hr
    refine wp_b rfl (by omega) (fun c => absurd c (by omega)) (fun c => ?_)
    refine wp_b rfl (by omega) (fun c => absurd c (by omega)) (fun c => ?_)
    refine wp_g rfl (by omega) ?_
    exact ih (k + 1) _ _ (by omega) (by omega) (by rw [hr, Int.pow_succ])
/-- power(i) = p^i -/
theorem c_power {i : Int} {E : Nat} (hE : E ≤ 5) (hi : i = E) (hQ : Q (some (.inl (p ^ E))) [c_T (.inl p) v_u v_u]) : pj_ci X m_Table_power [.inr 0, .inl i] [c_T (.inl p) v_u v_u] Q := by
  refine wp_g rfl (by omega) ?_
  exact c_power_loop hE hi hQ E 0 _ _ (by omega) (by omega) (by rw [Int.pow_zero])
/-- vectorCount() = p^n -/
theorem c_vectorCount {N : Nat} (hN : N ≤ 5) (hn : n = N) (hQ : Q (some (.inl (p ^ N))) [c_T (.inl p) (.inl n) v_u]) : pj_ci X m_Table_vectorCount [.inr 0] [c_T (.inl p) (.inl n) v_u] Q := by
  refine wp_c rfl (by omega) [0] (c_power hN hn ?_) rfl rfl rfl rfl
  exact wp_r rfl (by omega) hQ
/-- hasIndex(i) -/
theorem c_hasIndex {i : Int} (hi : pj_rg i) (hn : 0 ≤ n ∧ n ≤ 5) (h1 : 0 ≤ i → i < n → Q (some (.inl 1)) [c_T v_u (.inl n) v_u]) (h0 : (i < 0 ∨ n ≤ i) → Q (some (.inl 0)) [c_T v_u (.inl n) v_u]) : pj_ci X m_Table_hasIndex [.inr 0, .inl i] [c_T v_u (.inl n) v_u] Q := by
  obtain ⟨hi1, hi2⟩ := hi
  refine wp_b rfl (by omega) (fun c => ?_) (fun c => ?_)
  · exact wp_r rfl (by omega) (h0 (by omega))
  · refine wp_b rfl (by omega) (fun c2 => ?_) (fun c2 => ?_)
    · exact wp_r rfl (by omega) (h0 (by omega))
    · exact wp_r rfl (by omega) (h1 (by omega) (by omega))
/-- hasPair(i, j) -/
theorem c_hasPair {i j : Int} (hi : pj_rg i) (hj : pj_rg j) (hn : 0 ≤ n ∧ n ≤ 5) (h1 : (0 ≤ i ∧ i < n) → (0 ≤ j ∧ j < n) → i ≠ j → Q (some (.inl 1)) [c_T v_u (.inl n) v_u]) (h0 : ¬ ((0 ≤ i ∧ i < n) ∧ (0 ≤ j ∧ j < n) ∧ i ≠ j) → Q (some (.inl 0)) [c_T v_u (.inl n) v_u]) : pj_ci X m_Table_hasPair [.inr 0, .inl i, .inl j] [c_T v_u (.inl n) v_u] Q := by
  refine wp_c rfl (by omega) [0] (c_hasIndex hi hn (fun a1 a2 => ?_) (fun a => ?_)) rfl rfl rfl rfl
  · refine wp_b rfl (by omega) (fun c => absurd c (by omega)) (fun c => ?_)
    refine wp_c rfl (by omega) [0] (c_hasIndex hj hn (fun b1 b2 => ?_) (fun b => ?_)) rfl rfl rfl rfl
    · refine wp_b rfl (by omega) (fun c => absurd c (by omega)) (fun c => ?_)
      obtain ⟨hi1, hi2⟩ := hi
      obtain ⟨hj1, hj2⟩ := hj
      refine wp_b rfl (by omega) (fun c => ?_) (fun c => ?_)
      · exact wp_r rfl (by omega) (h0 (by omega))
      · exact wp_r rfl (by omega) (h1 ⟨a1, a2⟩ ⟨b1, b2⟩ c)
    · refine wp_b rfl (by omega) (fun c => ?_) (fun c => absurd rfl c)
      exact wp_r rfl (by omega) (h0 (by omega))
  · refine wp_b rfl (by omega) (fun c => ?_) (fun c => absurd rfl c)
    exact wp_r rfl (by omega) (h0 (by omega))
/-- hasVector(v) -/
theorem c_hasVector {v : Int} {N : Nat} (hp : nn_p p) (hv : pj_rg v) (hN : N ≤ 5) (hn : n = N) (h1 : 0 ≤ v → v < p ^ N → Q (some (.inl 1)) [c_T (.inl p) (.inl n) v_u]) (h0 : (v < 0 ∨ p ^ N ≤ v) → Q (some (.inl 0)) [c_T (.inl p) (.inl n) v_u]) : pj_ci X m_Table_hasVector [.inr 0, .inl v] [c_T (.inl p) (.inl n) v_u] Q := by
  obtain ⟨hi1, hi2⟩ := hv
  have hb := nn_pwle hp N hN
  have hb2 := nn_pw1 (nn_p_pos hp).1 N
  refine wp_b rfl (by omega) (fun c => ?_) (fun c => ?_)
  · exact wp_r rfl (by omega) (h0 (by omega))
  · refine wp_c rfl (by omega) [0] (c_vectorCount hN hn ?_) rfl rfl rfl rfl
    refine wp_b rfl (by omega) (fun c2 => ?_) (fun c2 => ?_)
    · exact wp_r rfl (by omega) (h0 (by omega))
    · exact wp_r rfl (by omega) (h1 (by omega) (by omega))
/-- hasFactor(c) -/
theorem c_hasFactor {i : Int} (hp : nn_p p) (hi : pj_rg i) (h1 : 1 ≤ i → i < p → Q (some (.inl 1)) [c_T (.inl p) v_u v_u]) (h0 : (i < 1 ∨ p ≤ i) → Q (some (.inl 0)) [c_T (.inl p) v_u v_u]) : pj_ci X m_Table_hasFactor [.inr 0, .inl i] [c_T (.inl p) v_u v_u] Q := by
  obtain ⟨hi1, hi2⟩ := hi
  obtain ⟨hp1, hp2, hp3⟩ := nn_p_pos hp
  refine wp_b rfl (by omega) (fun c => ?_) (fun c => ?_)
  · exact wp_r rfl (by omega) (h0 (by omega))
  · refine wp_b rfl (by omega) (fun c2 => ?_) (fun c2 => ?_)
    · exact wp_r rfl (by omega) (h0 (by omega))
    · exact wp_r rfl (by omega) (h1 (by omega) (by omega))
theorem nn_tmod {x p : Int} (hp : 0 < p) : (0 ≤ x.tmod p → x.tmod p = x % p) ∧ (¬ 0 ≤ x.tmod p → x.tmod p + p = x % p) := by
  have h1 := Int.tmod_eq_emod (a := x) (b := p)
  have h2 := Int.emod_nonneg x (show p ≠ 0 by omega)
  have h3 := Int.emod_lt_of_pos x hp
  have h4 : (p.natAbs : Int) = p := by omega
  constructor
  · intro h
    split at h1 <;> omega
  · intro h
    split at h1 <;> omega
/-- reduce(x) = x mod p -/
theorem c_reduce {x : Int} (hp : nn_p p) (hx : pj_rg x) (hQ : Q (some (.inl (x % p))) [c_T (.inl p) v_u v_u]) : pj_ci X m_Table_reduce [.inr 0, .inl x] [c_T (.inl p) v_u v_u] Q := by
  obtain ⟨hi1, hi2⟩ := hx
  obtain ⟨hp1, hp2, hp3⟩ := nn_p_pos hp
  have h3 := Int.emod_lt_of_pos x hp1
  have h4 := Int.emod_nonneg x (show p ≠ 0 by omega)
  obtain ⟨t1, t2⟩ := nn_tmod (x := x) hp1
  have hr : -2147483648 ≤ x.tmod p ∧ x.tmod p ≤ 2147483647 := by
    by_cases h : 0 ≤ x.tmod p
    · have := t1 h; omega
    · have := t2 h; omega
  refine wp_b rfl (by omega) (fun c => ?_) (fun c => absurd hp2 c)
  refine wp_b rfl (by omega) (fun c => ?_) (fun c => ?_)
  · refine wp_r rfl (by omega) ?_
    rw [t1 c]
    exact hQ
  · refine wp_r rfl (by omega) ?_
    rw [t2 c]
    exact hQ
/-- coordinate(v, i): a digit -/
theorem c_coord {v i : Int} {K : Nat} (hp : nn_p p) (hv : 0 ≤ v ∧ v ≤ 2147483647) (hK : K ≤ 5) (hi : i = K) (hQ : Q (some (.inl (nn_dg p v K))) [c_T (.inl p) v_u v_u]) : pj_ci X m_Table_coordinate [.inr 0, .inl v, .inl i] [c_T (.inl p) v_u v_u] Q := by
  obtain ⟨hp1, hp2, hp3⟩ := nn_p_pos hp
  have hb := nn_pwle hp K hK
  have hb2 := nn_pw1 hp1 K
  have hd : v / p ^ K ≤ v := Int.ediv_le_self _ hv.1
  have hd2 : 0 ≤ v / p ^ K := Int.ediv_nonneg hv.1 (by omega)
  have e1 : v.tdiv (p ^ K) = v / p ^ K := Int.tdiv_eq_ediv_of_nonneg hv.1
  have e2 : (v / p ^ K).tmod p = v / p ^ K % p := Int.tmod_eq_emod_of_nonneg hd2
  refine wp_c rfl (by omega) [0] (c_power hK hi ?_) rfl rfl rfl rfl
  refine wp_b rfl (by omega) (fun c => absurd c (by omega)) (fun c => ?_)
  refine wp_b rfl (by omega) (fun c => absurd c (by omega)) (fun c => ?_)
  refine wp_r rfl (by rw [e1]; omega) ?_
  rw [nn_dg_pow hp1] at hQ
  show Q (some (.inl ((v.tdiv (p ^ K)).tmod p))) _
  rw [e1, e2]
  exact hQ
/-- the number of the row that plus() makes -/
def nn_plus (p : Int) (N : Nat) (u v f : Int) : Int := nn_nm p N (fun k => (nn_dg p u k + f * nn_dg p v k) % p)
theorem nn_f7 {p f x : Int} (hp : nn_p p) (hf : 0 ≤ f ∧ f < p) (hx : 0 ≤ x ∧ x < p) : 0 ≤ f * x ∧ f * x ≤ 36 := by
  obtain ⟨hp1, hp2, hp3⟩ := nn_p_pos hp
  refine ⟨Int.mul_nonneg hf.1 hx.1, ?_⟩
  have h1 : f * x ≤ 6 * x := Int.mul_le_mul_of_nonneg_right (by omega) hx.1
  omega
theorem c_plus_loop {u v f : Int} {N : Nat} {g : Int} (hp : nn_p p) (hN : N ≤ 5) (hn : n = N) (hf : 0 ≤ f ∧ f < p) (hg : nn_eq p f g) (d1 d2 d3 : pj_V) (hQ : Q (some (.inl (nn_plus p N u v g))) [c_T (.inl p) (.inl n) v_u]) :
    ∀ (m k : Nat) (r w a b z : Int), k + m = N → z = k → w = p ^ k → r = nn_nm p k (fun k => (nn_dg p u k + g * nn_dg p v k) % p) → (0 ≤ a ∧ a ≤ 2147483647) → (0 ≤ b ∧ b ≤ 2147483647) → (∀ j, nn_dg p a j = nn_dg p u (k + j)) → (∀ j, nn_dg p b j = nn_dg p v (k + j)) →
      pj_WP X m_Table_plus 22 [.inr 0, d1, d2, d3, .inl f, .inl r, .inl w, .inl a, .inl b, .inl z] [] [c_T (.inl p) (.inl n) v_u] Q := by
  obtain ⟨hp1, hp2, hp3⟩ := nn_p_pos hp
  intro m
  induction m with
  | zero =>
    intro k r w a b z hk hz hw hr ha hb hda hdb
    refine wp_b rfl (by omega) (fun c => ?_) (fun c => absurd c (by omega))
    refine wp_r rfl (by omega) ?_
    rw [hr, show k = N by omega]
    exact hQ
  | succ m ih =>
    intro k r w a b z hk hz hw hr ha hb hda hdb
    refine wp_b rfl (by omega) (fun c => absurd c (by omega)) (fun c => ?_)
    refine wp_b rfl (by omega) (fun c => absurd c (by omega)) (fun c => ?_)
    have ea : a.tmod p = nn_dg p u k := by rw [Int.tmod_eq_emod_of_nonneg ha.1]; exact hda 0
    have eb : b.tmod p = nn_dg p v k := by rw [Int.tmod_eq_emod_of_nonneg hb.1]; exact hdb 0
    have ra := nn_dg_rg hp1 k u
    have rb := nn_dg_rg hp1 k v
    have rf := nn_f7 hp hf rb
    have ea2 : a.tdiv p = a / p := Int.tdiv_eq_ediv_of_nonneg ha.1
    have eb2 : b.tdiv p = b / p := Int.tdiv_eq_ediv_of_nonneg hb.1
    have ra2 : 0 ≤ a / p ∧ a / p ≤ a := ⟨Int.ediv_nonneg ha.1 (by omega), Int.ediv_le_self _ ha.1⟩
    have rb2 : 0 ≤ b / p ∧ b / p ≤ b := ⟨Int.ediv_nonneg hb.1 (by omega), Int.ediv_le_self _ hb.1⟩
    have es : (nn_dg p u k + f * nn_dg p v k).tmod p = (nn_dg p u k + g * nn_dg p v k) % p := by
      rw [Int.tmod_eq_emod_of_nonneg (by omega)]
      exact nn_eq_iff.mp (nn_eq_add (nn_eq_rfl p _) (nn_eq_mul hg (nn_eq_rfl p _)))
    refine wp_g rfl ?_ ?_
    · show ((((((0 : Int) ≤ 0 ∧ (-2147483648 ≤ a ∧ a ≤ 2147483647) ∧ (-2147483648 ≤ p ∧ p ≤ 2147483647) ∧ p ≠ 0) ∧ (-2147483648 ≤ b ∧ b ≤ 2147483647) ∧ (-2147483648 ≤ p ∧ p ≤ 2147483647) ∧ p ≠ 0) ∧ (-2147483648 ≤ a.tmod p + f * b.tmod p ∧ a.tmod p + f * b.tmod p ≤ 2147483647) ∧ (-2147483648 ≤ p ∧ p ≤ 2147483647) ∧ p ≠ 0) ∧ (-2147483648 ≤ a ∧ a ≤ 2147483647) ∧ (-2147483648 ≤ p ∧ p ≤ 2147483647) ∧ p ≠ 0) ∧ (-2147483648 ≤ b ∧ b ≤ 2147483647) ∧ (-2147483648 ≤ p ∧ p ≤ 2147483647) ∧ p ≠ 0)
      rw [ea, eb]
      omega
    · refine ih (k + 1) _ _ _ _ _ (by omega) (by omega) (by rw [hw, Int.pow_succ]) ?_ (by rw [ea2]; omega) (by rw [eb2]; omega) (fun j => ?_) (fun j => ?_)
      · show r + (a.tmod p + f * b.tmod p).tmod p * w = _
        rw [ea, eb, es, hr, hw, nn_nm_last]
      · rw [ea2, show k + 1 + j = k + (j + 1) by omega, ← hda (j + 1)]
        rfl
      · rw [eb2, show k + 1 + j = k + (j + 1) by omega, ← hdb (j + 1)]
        rfl
/-- plus(u, v, f) -/
theorem c_plus {u v f : Int} {N : Nat} (hp : nn_p p) (hN : N ≤ 5) (hn : n = N) (hu : 0 ≤ u ∧ u ≤ 2147483647) (hv : 0 ≤ v ∧ v ≤ 2147483647) (hf : pj_rg f) (hQ : Q (some (.inl (nn_plus p N u v f))) [c_T (.inl p) (.inl n) v_u]) : pj_ci X m_Table_plus [.inr 0, .inl u, .inl v, .inl f] [c_T (.inl p) (.inl n) v_u] Q := by
  obtain ⟨hp1, hp2, hp3⟩ := nn_p_pos hp
  refine wp_c rfl (by omega) [0] (c_reduce hp hf ?_) rfl rfl rfl rfl
  refine wp_g rfl (by omega) ?_
  exact c_plus_loop hp hN hn ⟨Int.emod_nonneg f (by omega), Int.emod_lt_of_pos f hp1⟩ (nn_eq_mod p f) _ _ _ hQ N 0 _ _ _ _ _ (by omega) (by omega) (by rw [Int.pow_zero]) rfl hu hv (fun j => by rw [Nat.zero_add]) (fun j => by rw [Nat.zero_add])
end TABLE
