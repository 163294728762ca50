/-! the rule for a branch where new cells may be made; the law's own small functions -/
def pj_tb2 (X : pj_X) (M pc : Nat) (ls st : List pj_V) (h : List pj_C) : Option (Prop × Prop × Nat × Nat × List pj_V × List pj_V × List pj_C) := match pj_tk X 300 true M pc ls st h ((0 : Int) ≤ 0) with
  | some (P, pc', ls', st', h') => match k_cd M pc' with
    | some (i, nx, a, _, _, _, _) => match pj_br i nx a st' with
      | some (P2, k, pt, pf, t) => some (P ∧ P2, k, pt, pf, ls', t, h')
      | none => none
    | none => none
  | none => none
theorem wt_b {X : pj_X} {M pc : Nat} {ls st : List pj_V} {h : List pj_C} {Q : Option pj_V → List pj_C → Prop} {P k : Prop} {pt pf : Nat} {ls' t : List pj_V} {h' : List pj_C} (e : pj_tb2 X M pc ls st h = some (P, k, pt, pf, ls', t, h')) (hP : P) (ht : k → pj_WT X M pt ls' t h' Q) (hf : ¬ k → pj_WT X M pf ls' t h' Q) : pj_WT X M pc ls st h Q := by
  unfold pj_tb2 at e
  split at e
  · rename_i P1 pc1 ls1 st1 h1 hb1
    split at e
    · rename_i i nx a b c d hd hcd
      split at e
      · rename_i P2 k2 pt2 pf2 t2 hbr
        cases e
        refine (pj_tk_sound _ _ _ _ _ _ _ _ _ _ _ _ _ hb1 hP.1).2 ?_
        have hn := pj_s1_none1 (X := X) (al := true) (g := h') (nx := nx) (a := a) (b := b) (c := c) (ls2 := ls') (st2 := st1) (pj_br_k hbr)
        by_cases hk : k
        · obtain ⟨n, r, hf2, hR, hQ⟩ := ht hk
          refine ⟨n + 1, r, hf2, ?_, hQ⟩
          unfold pj_Rn
          simp only [hcd, hn, hbr]
          exact ⟨hP.2, fun _ => hR, fun z => absurd hk z⟩
        · obtain ⟨n, r, hf2, hR, hQ⟩ := hf hk
          refine ⟨n + 1, r, hf2, ?_, hQ⟩
          unfold pj_Rn
          simp only [hcd, hn, hbr]
          exact ⟨hP.2, fun z => absurd z hk, fun _ => hR⟩
      · cases e
    · cases e
  · cases e
theorem wt_n {X : pj_X} {M pc : Nat} {ls st : List pj_V} {h : List pj_C} {Q : pj_Q} (st2 : List pj_V) (h2 : List pj_C) (e1 : st = st2) (e2 : h = h2) (k : pj_WT X M pc ls st2 h2 Q) : pj_WT X M pc ls st h Q := e1 ▸ e2 ▸ k
theorem wt_m {X : pj_X} {M pc : Nat} {ls st : List pj_V} {h : List pj_C} {Q Q' : pj_Q} (hw : pj_WT X M pc ls st h Q') (hq : ∀ r hf, Q' r hf → Q r hf) : pj_WT X M pc ls st h Q := by
  obtain ⟨n, r, hf, h1, h2⟩ := hw
  exact ⟨n, r, hf, h1, hq _ _ h2⟩
theorem pj_andM (x : Int) : 0 ≤ pj_and x 2147483647 ∧ pj_and x 2147483647 ≤ 2147483647 := by
  have h : ((Int32.ofInt x).toBitVec &&& (Int32.ofInt 2147483647).toBitVec).toNat ≤ 2147483647 := by
    rw [BitVec.toNat_and]
    exact Nat.le_trans Nat.and_le_right (by decide)
  have e : pj_and x 2147483647 = (((Int32.ofInt x).toBitVec &&& (Int32.ofInt 2147483647).toBitVec).toNat : Int) := by
    show ((Int32.ofInt x).toBitVec &&& (Int32.ofInt 2147483647).toBitVec).toInt = _
    exact BitVec.toInt_eq_toNat_of_lt (by omega)
  rw [e]
  omega
theorem pj_and_rg (x y : Int) : pj_rg (pj_and x y) := by
  have a := Int32.le_toInt (Int32.ofInt x &&& Int32.ofInt y)
  have b := Int32.toInt_lt (Int32.ofInt x &&& Int32.ofInt y)
  unfold pj_and pj_rg
  omega
section SMALL
variable {X : pj_X} {Q : pj_Q} {p n : Int} {N : Nat}
theorem s_cell (hX : ∀ j, pj_rg (X.2 j)) (hL : X.1 ≤ 260) {k : Int} (hk : 0 ≤ k ∧ k ≤ 20) (hQ : ∀ z, pj_rg z → Q (some (.inl z)) []) : pj_ci X m_Lw_cell [.inr 1002, .inl k] [] Q := by
  refine wp_b rfl (by omega) (fun c => ?_) (fun c => ?_)
  · refine wp_r rfl (by omega) (hQ _ ?_)
    have h1 : 7919 * (k + 3) * (k + 11) ≤ 182137 * 31 := Int.mul_le_mul (by omega) (by omega) (by omega) (by omega)
    have h2 : 0 ≤ 7919 * (k + 3) * (k + 11) := Int.mul_nonneg (by omega) (by omega)
    unfold pj_rg
    omega
  · exact wp_r rfl (by omega) (hQ _ (hX _))
theorem s_low {v n : Int} (hn : 0 < n ∧ n ≤ 2147483647) (hQ : ∀ z, 0 ≤ z → z < n → Q (some (.inl z)) []) : pj_ci X m_Lw_low [.inl v, .inl n] [] Q := by
  have h : 0 ≤ pj_and v ((2147483647 : Nat) : Int) ∧ pj_and v ((2147483647 : Nat) : Int) ≤ 2147483647 := pj_andM v
  refine wp_r rfl (by omega) (hQ _ ?_ ?_)
  · exact Int.tmod_nonneg _ h.1
  · exact Int.tmod_lt_of_pos _ hn.1
theorem s_power_loop {E : Nat} (hE : E ≤ 5) (hQ : Q (some (.inl (p ^ E))) []) : ∀ (m k : Nat) (e r z : Int), k + m = E → e = E → z = k → r = p ^ k → pj_WP X m_Lw_power 4 [.inl p, .inl e, .inl r, .inl z] [] [] Q := by
  intro m
  induction m with
  | zero =>
    intro k e r z hk he hz hr
    refine wp_b rfl (by omega) (fun c => ?_) (fun c => absurd c (by omega))
    refine wp_r rfl (by omega) ?_
    rw [hr, show k = E by omega]
    exact hQ
  | succ m ih =>
    intro k e r z hk he hz hr
    refine wp_b rfl (by omega) (fun c => absurd c (by omega)) (fun c => ?_)
    refine wp_g rfl (by omega) ?_
    refine ih (k + 1) _ _ _ (by omega) he (by omega) ?_
    rw [hr, Int.pow_succ]
theorem s_power {E : Nat} {e : Int} (hE : E ≤ 5) (he : e = E) (hQ : Q (some (.inl (p ^ E))) []) : pj_ci X m_Lw_power [.inl p, .inl e] [] Q := by
  refine wp_g rfl (by omega) ?_
  exact s_power_loop hE hQ E 0 _ _ _ (by omega) he (by omega) (by rw [Int.pow_zero])
theorem s_mod {v : Int} (hv : 0 ≤ v ∧ v ≤ 2147483640) (hp : 0 < p ∧ p ≤ 7) (hQ : Q (some (.inl (v % p))) []) : pj_ci X m_Lw_mod [.inl v, .inl p] [] Q := by
  have h1 : v.tmod p = v % p := Int.tmod_eq_emod_of_nonneg hv.1
  have h2 := Int.emod_nonneg v (show p ≠ 0 by omega)
  have h3 := Int.emod_lt_of_pos v hp.1
  have h4 : (v.tmod p + p).tmod p = v % p := by
    rw [h1, Int.tmod_eq_emod_of_nonneg (by omega), Int.add_emod_right, Int.emod_emod_of_dvd _ (Int.dvd_refl p)]
  refine wp_r rfl (by rw [h1]; omega) ?_
  rw [h4]
  exact hQ
theorem s_digit_loop {v : Int} (hp : nn_p p) {K : Nat} {D : Int} (hQ : Q (some (.inl D)) []) : ∀ (m i : Nat) (k r z : Int), i + m = K → K ≤ 5 → k = K → z = i → 0 ≤ r ∧ r ≤ 2147483647 → nn_dg p r m = D → pj_WP X m_Lw_digit 5 [.inl v, .inl p, .inl k, .inl r, .inl z] [] [] Q := by
  obtain ⟨hp1, hp2, hp3⟩ := nn_p_pos hp
  intro m
  induction m with
  | zero =>
    intro i k r z hi hK hk hz hr hD
    refine wp_b rfl (by omega) (fun c => ?_) (fun c => absurd c (by omega))
    refine wp_r rfl (by omega) ?_
    rw [Int.tmod_eq_emod_of_nonneg hr.1]
    have h9 : r % p = D := hD
    rw [h9]
    exact hQ
  | succ m ih =>
    intro i k r z hi hK hk hz hr hD
    refine wp_b rfl (by omega) (fun c => absurd c (by omega)) (fun c => ?_)
    refine wp_g rfl (by omega) ?_
    have e : r.tdiv p = r / p := Int.tdiv_eq_ediv_of_nonneg hr.1
    have h1 := Int.ediv_nonneg hr.1 (show 0 ≤ p by omega)
    have h2 := Int.ediv_le_self p hr.1
    rw [e]
    exact ih (i + 1) _ _ _ (by omega) hK hk (by omega) ⟨h1, by omega⟩ hD
theorem s_digit {v k : Int} {K : Nat} (hp : nn_p p) (hv : 0 ≤ v ∧ v ≤ 2147483647) (hK : K ≤ 5) (hk : k = K) (hQ : Q (some (.inl (nn_dg p v K))) []) : pj_ci X m_Lw_digit [.inl v, .inl p, .inl k] [] Q := by
  refine wp_g rfl (by omega) ?_
  exact s_digit_loop hp hQ K 0 _ _ _ (by omega) hK hk (by omega) hv rfl
theorem s_sum_loop {u f v : Int} (hp : nn_p p) (hN : N ≤ 5) (hu : 0 ≤ u ∧ u ≤ 2147483647) (hv : 0 ≤ v ∧ v ≤ 2147483647) (hf : 0 ≤ f ∧ f < p) (hQ : Q (some (.inl (nn_plus p N u v f))) []) : ∀ (K : Nat) (s k : Int), K ≤ N → k = (K : Int) - 1 → s = nn_nm p (N - K) (fun j => (nn_dg p u (K + j) + f * nn_dg p v (K + j)) % p) → pj_WP X m_Lw_sum 9 [.inl u, .inl f, .inl v, .inl p, .inl n, .inl s, .inl k] [] [] Q := by
  obtain ⟨hp1, hp2, hp3⟩ := nn_p_pos hp
  intro K
  induction K with
  | zero =>
    intro s k hK hk hs
    refine wp_b rfl (by omega) (fun c => ?_) (fun c => absurd c (by omega))
    refine wp_r rfl (by omega) ?_
    have e : s = nn_plus p N u v f := by
      rw [hs]
      exact nn_nm_congr N (fun j _ => by rw [Nat.zero_add])
    rw [e]
    exact hQ
  | succ K ih =>
    intro s k hK hk hs
    have d1 := nn_dg_rg hp1 K u
    have d2 := nn_dg_rg hp1 K v
    have h1 : f * nn_dg p v K ≤ 7 * 7 := Int.mul_le_mul (by omega) (by omega) d2.1 (by omega)
    have h2 : 0 ≤ f * nn_dg p v K := Int.mul_nonneg hf.1 d2.1
    refine wp_b rfl (by omega) (fun c => absurd c (by omega)) (fun c => ?_)
    refine wp_c rfl (by omega) [] (s_digit (K := K) hp hu (by omega) (by omega) ?_) rfl rfl rfl rfl
    refine wp_c rfl (by omega) [] (s_digit (K := K) hp hv (by omega) (by omega) ?_) rfl rfl rfl rfl
    refine wp_c rfl (by omega) [] (s_mod (v := nn_dg p u K + f * nn_dg p v K) (by omega) ⟨hp1, hp3⟩ ?_) rfl rfl rfl rfl
    refine wp_g rfl (by omega) ?_
    refine ih _ _ (by omega) (by omega) ?_
    rw [show N - K = N - (K + 1) + 1 by omega]
    show p * s + (nn_dg p u K + f * nn_dg p v K) % p = (nn_dg p u (K + 0) + f * nn_dg p v (K + 0)) % p + p * nn_nm p (N - (K + 1)) (fun j => (nn_dg p u (K + (j + 1)) + f * nn_dg p v (K + (j + 1))) % p)
    rw [hs, Nat.add_zero, Int.add_comm]
    congr 2
    exact nn_nm_congr _ (fun j _ => by rw [show K + 1 + j = K + (j + 1) by omega])
theorem s_sum {u f v : Int} (hp : nn_p p) (hN : N ≤ 5) (hn : n = N) (hu : 0 ≤ u ∧ u ≤ 2147483647) (hv : 0 ≤ v ∧ v ≤ 2147483647) (hf : 0 ≤ f ∧ f < p) (hQ : Q (some (.inl (nn_plus p N u v f))) []) : pj_ci X m_Lw_sum [.inl u, .inl f, .inl v, .inl p, .inl n] [] Q := by
  refine wp_g rfl (by omega) ?_
  refine s_sum_loop hp hN hu hv hf hQ N _ _ (Nat.le_refl N) (by omega) ?_
  rw [Nat.sub_self]
  rfl
end SMALL
