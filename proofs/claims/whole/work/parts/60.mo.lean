/-! THE MODEL: its state, its small methods -/
def st_m (p : Int) (N : Nat) (T : Nat → Nat → Nat → Int) (s : Nat → Int) : Prop := s 0 = p ∧ s 1 = (N : Int) ∧ ∀ i j k, i < 5 → j < 5 → k < 5 → s (2 + 5 * (5 * i + j) + k) = T i j k
abbrev o_s : pj_C := .inr (8, [v_u, .inr 1, v_u, v_u, v_u, v_u, v_u, v_u, v_u, v_u, v_u, v_u, v_u, v_u, v_u, v_u, v_u, v_u, v_u, v_u, v_u, v_u, v_u, v_u, v_u, v_u, v_u, v_u])
abbrev o_b : pj_C := .inr (8, [v_u, .inr 1, v_u, v_u, v_u, v_u, v_u, v_u, v_u, v_u, .inr 2, v_u, v_u, v_u, v_u, v_u, v_u, v_u, v_u, v_u, v_u, v_u, v_u, v_u, v_u, v_u, v_u, v_u])
abbrev w_s (s : Nat → Int) : List pj_C := [o_s, c_A 127 s]
theorem nn_sm_rg {B : Int} : ∀ (n : Nat) {f : Nat → Int}, (∀ k, k < n → 0 ≤ f k ∧ f k ≤ B) → 0 ≤ nn_sm n f ∧ nn_sm n f ≤ n * B
  | 0, _, _ => by
    show (0 : Int) ≤ 0 ∧ (0 : Int) ≤ ((0 : Nat) : Int) * B
    rw [Int.natCast_zero, Int.zero_mul]
    exact ⟨Int.le_refl 0, Int.le_refl 0⟩
  | n + 1, f, h => by
    have h1 := nn_sm_rg n (fun k hk => h k (by omega))
    have h2 := h n (by omega)
    show 0 ≤ nn_sm n f + f n ∧ nn_sm n f + f n ≤ ((n + 1 : Nat) : Int) * B
    rw [Int.natCast_add, Int.add_mul, Int.natCast_one, Int.one_mul]
    omega
section MO
variable {X : pj_X} {Q : pj_Q} {p : Int} {N : Nat} {T : Nat → Nat → Nat → Int} {s : Nat → Int}
/-- in(v, least, most) -/
theorem d_in {v a b : Int} (hv : pj_rg v) (ha : pj_rg a) (hb : pj_rg b) (h1 : a ≤ v → v ≤ b → Q (some (.inl 1)) []) (h0 : (v < a ∨ b < v) → Q (some (.inl 0)) []) : pj_ci X m_Mo_in [.inl v, .inl a, .inl b] [] Q := by
  obtain ⟨hv1, hv2⟩ := hv
  obtain ⟨ha1, ha2⟩ := ha
  obtain ⟨hb1, hb2⟩ := hb
  refine wp_b rfl (by omega) (fun c => ?_) (fun c => ?_)
  · exact wp_r rfl (by omega) (h0 (by omega))
  · refine wp_b rfl (by omega) (fun c2 => ?_) (fun c2 => ?_)
    · exact wp_r rfl (by omega) (h0 (by omega))
    · exact wp_r rfl (by omega) (h1 (by omega) (by omega))
theorem d_power_loop {e : Int} {E : Nat} (hE : E ≤ 5) (he : e = E) (hQ : Q (some (.inl (p ^ E))) []) :
    ∀ (m k : Nat) (r z : Int), k + m = E → z = k → r = p ^ k → pj_WP X m_Mo_power 4 [.inl p, .inl e, .inl r, .inl z] [] [] Q := by
  intro m
  induction m with
  | zero =>
    intro k r z hk hz hr
    refine wp_b rfl (by omega) (fun c => ?_) (fun c => absurd c (by omega))
    refine wp_r rfl (by omega) ?_
    rw [hr, show k = E by omega]
    exact hQ
  | succ m ih =>
    intro k r z hk hz hr
    refine wp_b rfl (by omega) (fun c => absurd c (by omega)) (fun c => ?_)
    refine wp_g rfl (by omega) ?_
    exact ih (k + 1) _ _ (by omega) (by omega) (by rw [hr, Int.pow_succ])
/-- power(base, exponent) -/
theorem d_power {e : Int} {E : Nat} (hE : E ≤ 5) (he : e = E) (hQ : Q (some (.inl (p ^ E))) []) : pj_ci X m_Mo_power [.inl p, .inl e] [] Q := by
  refine wp_g rfl (by omega) ?_
  exact d_power_loop hE he hQ E 0 _ _ (by omega) (by omega) (by rw [Int.pow_zero])
/-- mod(v) -/
theorem d_mod {x : Int} (hp : nn_p p) (h0 : s 0 = p) (hx : pj_rg x) (hQ : Q (some (.inl (x % p))) (w_s s)) : pj_ci X m_Mo_mod [.inr 0, .inl x] (w_s s) Q := by
  obtain ⟨hi1, hi2⟩ := hx
  obtain ⟨hp1, hp2, hp3⟩ := nn_p_pos hp
  have h3 := Int.emod_lt_of_pos x hp1
  have h4 := Int.emod_nonneg x (show p ≠ 0 by omega)
  obtain ⟨t1, t2⟩ := nn_tmod (x := x) hp1
  have h0' : s (Int.toNat 0) = p := h0
  have et : x.tmod (s (Int.toNat 0)) = x.tmod p := by rw [h0']
  have hr : -2147483648 ≤ x.tmod p ∧ x.tmod p ≤ 2147483647 := by
    by_cases h : 0 ≤ x.tmod p
    · have := t1 h; omega
    · have := t2 h; omega
  refine wp_b rfl (by rw [et, h0']; omega) (fun c => ?_) (fun c => ?_)
  · rw [et] at c
    refine wp_r rfl (by omega) ?_
    rw [et, t1 c]
    exact hQ
  · rw [et] at c
    refine wp_r rfl (by omega) ?_
    rw [et, h0', t2 c]
    exact hQ
theorem d_inverse_loop {x : Int} (hp : nn_p p) (h0 : s 0 = p) (hx : 1 ≤ x ∧ x < p) (hQ : ∀ y : Int, 1 ≤ y → y < p → y * x % p = 1 → Q (some (.inl y)) (w_s s)) :
    ∀ (m : Nat) (k : Int), k + m = p → 1 ≤ k → (∀ j : Int, 1 ≤ j → j < k → j * x % p ≠ 1) → pj_WP X m_Mo_inverse 2 [.inr 0, .inl x, .inl k] [] (w_s s) Q := by
  obtain ⟨hp1, hp2, hp3⟩ := nn_p_pos hp
  intro m
  induction m with
  | zero =>
    intro k hk h1 hno
    obtain ⟨y, a, b, c⟩ := nn_inv_ex hp x hx.1 hx.2
    exact absurd c (hno y a (by omega))
  | succ m ih =>
    intro k hk h1 hno
    have hr := nn_f7 hp (f := k) (x := x) ⟨by omega, by omega⟩ ⟨by omega, by omega⟩
    have e2 := Int.emod_nonneg (k * x) (show p ≠ 0 by omega)
    have e3 := Int.emod_lt_of_pos (k * x) hp1
    refine wp_c rfl (by omega) [0, 1] (d_mod hp h0 (by unfold pj_rg; omega) ?_) rfl rfl rfl rfl
    refine wp_h (w_s s) rfl ?_
    refine wp_b rfl (by omega) (fun c => ?_) (fun c => ?_)
    · exact wp_r rfl (by omega) (hQ k h1 (by omega) c)
    · refine wp_g rfl (by omega) ?_
      refine ih (k + 1) (by omega) (by omega) (fun j h2 h3 => ?_)
      by_cases hj : j = k
      · subst hj
        exact c
      · exact hno j h2 (by omega)
/-- inverse(v) -/
theorem d_inverse {x : Int} (hp : nn_p p) (h0 : s 0 = p) (hx : 1 ≤ x ∧ x < p) (hQ : ∀ y : Int, 1 ≤ y → y < p → y * x % p = 1 → Q (some (.inl y)) (w_s s)) : pj_ci X m_Mo_inverse [.inr 0, .inl x] (w_s s) Q := by
  have := (nn_p_pos hp).2.1
  refine wp_g rfl (by omega) ?_
  exact d_inverse_loop hp h0 hx hQ (p - 1).toNat 1 (by omega) (by omega) (fun j h1 h2 => by omega)
/-- isVector(v) -/
theorem d_isVector {v : Int} (hp : nn_p p) (hN : N ≤ 5) (h0 : s 0 = p) (h1 : s 1 = (N : Int)) (hv : pj_rg v) (ht : 0 ≤ v → v < p ^ N → Q (some (.inl 1)) (w_s s)) (hf : (v < 0 ∨ p ^ N ≤ v) → Q (some (.inl 0)) (w_s s)) : pj_ci X m_Mo_isVector [.inr 0, .inl v] (w_s s) Q := by
  have hpw := nn_pwle hp N hN
  have hpw1 := nn_pw1 (nn_p_pos hp).1 N
  have h0' : s (Int.toNat 0) = p := h0
  have h1' : s (Int.toNat 1) = (N : Int) := h1
  refine wp_c rfl (by omega) [] (d_power (p := s (Int.toNat 0)) (e := s (Int.toNat 1)) hN h1' ?_) rfl rfl rfl rfl
  rw [h0']
  refine wp_h (w_s s) rfl ?_
  refine wp_c rfl (by omega) [] (d_in hv (by unfold pj_rg; omega) (by unfold pj_rg; omega) (fun a b => ?_) (fun a => ?_)) rfl rfl rfl rfl
  · exact wp_r rfl (by omega) (ht (by omega) (by omega))
  · exact wp_r rfl (by omega) (hf (by omega))
/-- isIndex(i) -/
theorem d_isIndex {i : Int} (hN : N ≤ 5) (h1 : s 1 = (N : Int)) (hi : pj_rg i) (ht : 0 ≤ i → i < N → Q (some (.inl 1)) (w_s s)) (hf : (i < 0 ∨ (N : Int) ≤ i) → Q (some (.inl 0)) (w_s s)) : pj_ci X m_Mo_isIndex [.inr 0, .inl i] (w_s s) Q := by
  have h1' : s (Int.toNat 1) = (N : Int) := h1
  refine wp_c rfl (by omega) [] (d_in hi (by unfold pj_rg; omega) (by unfold pj_rg; omega) (fun a b => ?_) (fun a => ?_)) rfl rfl rfl rfl
  · exact wp_r rfl (by omega) (ht (by omega) (by omega))
  · exact wp_r rfl (by omega) (hf (by omega))
/-- at(i, j) -/
theorem d_at {i j : Int} (hQ : Q (some (.inl (2 + 5 * (5 * i + j)))) []) : pj_ci X m_Mo_at [.inl i, .inl j] [] Q := wp_r rfl (by omega) hQ
theorem d_read_loop {v : Int} {g : Nat → Int} (hp : nn_p p) (hN : N ≤ 5) (h0 : s 0 = p) (h1 : s 1 = (N : Int)) (hQ : Q none [o_s, c_A 127 s, c_A 5 (fun k => if k < 5 then (if k < N then nn_dg p v k else 0) else g k)]) :
    ∀ (m K : Nat) (g' : Nat → Int) (r k : Int), K + m = 5 → k = K → (0 ≤ r ∧ r ≤ 2147483647) → (∀ j, nn_dg p r j = nn_dg p v (K + j)) → (∀ j, g' j = if j < K then (if j < N then nn_dg p v j else 0) else g j) → pj_WP X m_Mo_read 5 [.inr 0, .inl v, .inr 2, .inl r, .inl k] [] [o_s, c_A 127 s, c_A 5 g'] Q := by
  obtain ⟨hp1, hp2, hp3⟩ := nn_p_pos hp
  have h0' : s (Int.toNat 0) = p := h0
  have h1' : s (Int.toNat 1) = (N : Int) := h1
  intro m
  induction m with
  | zero =>
    intro K g' r k hK hk hr hd hg
    refine wp_b rfl (by omega) (fun c => ?_) (fun c => absurd c (by omega))
    refine wp_r rfl (by omega) ?_
    rw [show g' = fun k => if k < 5 then (if k < N then nn_dg p v k else 0) else g k from funext fun j => by rw [hg j, show K = 5 by omega]]
    exact hQ
  | succ m ih =>
    intro K g' r k hK hk hr hd hg
    have ek : k.toNat = K := by omega
    have ea : r.tmod p = nn_dg p v K := by rw [Int.tmod_eq_emod_of_nonneg hr.1]; exact hd 0
    have ea2 : r.tdiv p = r / p := Int.tdiv_eq_ediv_of_nonneg hr.1
    have ra2 : 0 ≤ r / p ∧ r / p ≤ r := ⟨Int.ediv_nonneg hr.1 (by omega), Int.ediv_le_self _ hr.1⟩
    have next : ∀ x : Int, x = (if K < N then nn_dg p v K else 0) → ∀ j, pj_up g' k.toNat x j = if j < K + 1 then (if j < N then nn_dg p v j else 0) else g j := fun x hx j => by
      unfold pj_up
      rw [ek]
      by_cases h : j = K
      · subst h
        rw [if_pos rfl, if_pos (by omega), hx]
      · rw [if_neg h, hg j]
        by_cases h2 : j < K
        · rw [if_pos h2, if_pos (show j < K + 1 by omega)]
        · rw [if_neg h2, if_neg (show ¬ j < K + 1 by omega)]
    refine wp_b rfl (by omega) (fun c => absurd c (by omega)) (fun c => ?_)
    refine wp_b rfl (by omega) (fun c => ?_) (fun c => ?_)
    · refine wp_g rfl (by omega) ?_
      refine ih (K + 1) _ _ _ (by omega) (by omega) (by rw [h0', ea2]; omega) (fun j => ?_) (next _ (by rw [if_neg (by omega)]))
      rw [h0', ea2, show K + 1 + j = K + (j + 1) by omega, ← hd (j + 1)]
      rfl
    · refine wp_g rfl (by omega) ?_
      refine ih (K + 1) _ _ _ (by omega) (by omega) (by rw [h0', ea2]; omega) (fun j => ?_) (next _ (by rw [h0', ea, if_pos (by omega)]))
      rw [h0', ea2, show K + 1 + j = K + (j + 1) by omega, ← hd (j + 1)]
      rfl
/-- read(v, into) -/
theorem d_read {v : Int} {g : Nat → Int} (hp : nn_p p) (hN : N ≤ 5) (h0 : s 0 = p) (h1 : s 1 = (N : Int)) (hv : 0 ≤ v ∧ v ≤ 2147483647) (hQ : Q none [o_s, c_A 127 s, c_A 5 (fun k => if k < 5 then (if k < N then nn_dg p v k else 0) else g k)]) : pj_ci X m_Mo_read [.inr 0, .inl v, .inr 2] [o_s, c_A 127 s, c_A 5 g] Q := by
  refine wp_g rfl (by omega) ?_
  exact d_read_loop hp hN h0 h1 hQ 5 0 g _ _ (by omega) (by omega) hv (fun j => by rw [Nat.zero_add]) (fun j => by rw [if_neg (by omega)])
theorem d_number_loop {len : Nat} {g : Nat → Int} (hlen : len ≤ 100000) {F : Nat} {f : Int} (hN : N ≤ 5) (h0 : s 0 = p) (hf : f = F) (hF : F + N ≤ len) (hQ : Q (some (.inl (nn_nm p N (fun j => g (F + j))))) [o_s, c_A 127 s, c_A len g]) :
    ∀ (K : Nat) (v k : Int), K ≤ N → k = (K : Int) - 1 → v = nn_nm p (N - K) (fun j => g (F + K + j)) → pj_WP X m_Mo_numberOf 12 [.inr 0, .inr 2, .inl f, .inl v, .inl k] [] [o_s, c_A 127 s, c_A len g] Q := by
  have h0' : s (Int.toNat 0) = p := h0
  intro K
  induction K with
  | zero =>
    intro v k hK hk hv
    refine wp_b rfl (by omega) (fun c => ?_) (fun c => absurd c (by omega))
    refine wp_r rfl (by omega) ?_
    rw [hv]
    exact hQ
  | succ K ih =>
    intro v k hK hk hv
    refine wp_b rfl (by omega) (fun c => absurd c (by omega)) (fun c => ?_)
    refine wp_g rfl (by omega) ?_
    refine ih _ _ (by omega) (by omega) ?_
    have ek : (f + k).toNat = F + K := by omega
    rw [h0', ek, hv, show N - K = (N - (K + 1)) + 1 by omega]
    show _ = g (F + K + 0) + p * nn_nm p (N - (K + 1)) (fun j => g (F + K + (j + 1)))
    rw [Int.add_comm, Int.mul_comm, nn_nm_congr (N - (K + 1)) (f := fun j => g (F + (K + 1) + j)) (g := fun j => g (F + K + (j + 1))) (fun j _ => by rw [show F + (K + 1) + j = F + K + (j + 1) by omega])]
    rfl
/-- numberOf(row, from) -/
theorem d_number {len : Nat} {g : Nat → Int} (hlen : len ≤ 100000) {F : Nat} {f : Int} (hN : N ≤ 5) (h0 : s 0 = p) (h1 : s 1 = (N : Int)) (hf : f = F) (hF : F + N ≤ len) (hQ : Q (some (.inl (nn_nm p N (fun j => g (F + j))))) [o_s, c_A 127 s, c_A len g]) : pj_ci X m_Mo_numberOf [.inr 0, .inr 2, .inl f] [o_s, c_A 127 s, c_A len g] Q := by
  have h1' : s (Int.toNat 1) = (N : Int) := h1
  refine wp_g rfl (by omega) ?_
  exact d_number_loop hlen hN h0 hf hF hQ N _ _ (Nat.le_refl N) (by omega) (by rw [Nat.sub_self]; rfl)
theorem d_numberS_loop {F : Nat} {f : Int} (hN : N ≤ 5) (h0 : s 0 = p) (hf : f = F) (hF : F + N ≤ 127) (hQ : Q (some (.inl (nn_nm p N (fun j => s (F + j))))) (w_s s)) :
    ∀ (K : Nat) (v k : Int), K ≤ N → k = (K : Int) - 1 → v = nn_nm p (N - K) (fun j => s (F + K + j)) → pj_WP X m_Mo_numberOf 12 [.inr 0, .inr 1, .inl f, .inl v, .inl k] [] (w_s s) Q := by
  have h0' : s (Int.toNat 0) = p := h0
  intro K
  induction K with
  | zero =>
    intro v k hK hk hv
    refine wp_b rfl (by omega) (fun c => ?_) (fun c => absurd c (by omega))
    refine wp_r rfl (by omega) ?_
    rw [hv]
    exact hQ
  | succ K ih =>
    intro v k hK hk hv
    refine wp_b rfl (by omega) (fun c => absurd c (by omega)) (fun c => ?_)
    refine wp_g rfl (by omega) ?_
    refine ih _ _ (by omega) (by omega) ?_
    have ek : (f + k).toNat = F + K := by omega
    rw [h0', ek, hv, show N - K = (N - (K + 1)) + 1 by omega]
    show _ = s (F + K + 0) + p * nn_nm p (N - (K + 1)) (fun j => s (F + K + (j + 1)))
    rw [Int.add_comm, Int.mul_comm, nn_nm_congr (N - (K + 1)) (f := fun j => s (F + (K + 1) + j)) (g := fun j => s (F + K + (j + 1))) (fun j _ => by rw [show F + (K + 1) + j = F + K + (j + 1) by omega])]
    rfl
/-- numberOf(row, from) for the state's own row -/
theorem d_numberS {F : Nat} {f : Int} (hN : N ≤ 5) (h0 : s 0 = p) (h1 : s 1 = (N : Int)) (hf : f = F) (hF : F + N ≤ 127) (hQ : Q (some (.inl (nn_nm p N (fun j => s (F + j))))) (w_s s)) : pj_ci X m_Mo_numberOf [.inr 0, .inr 1, .inl f] (w_s s) Q := by
  have h1' : s (Int.toNat 1) = (N : Int) := h1
  refine wp_g rfl (by omega) ?_
  exact d_numberS_loop hN h0 hf hF hQ N _ _ (Nat.le_refl N) (by omega) (by rw [Nat.sub_self]; rfl)
end MO
