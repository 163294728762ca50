/-! the bracket -/
def tt_ok (p : Int) (N : Nat) (T : Nat → Nat → Nat → Int) : Prop := nn_p p ∧ 1 ≤ N ∧ N ≤ 5 ∧ (∀ i j k, 0 ≤ T i j k ∧ T i j k < p) ∧ (∀ i j k, (N ≤ i ∨ N ≤ j ∨ N ≤ k) → T i j k = 0) ∧ (∀ i j k, nn_eq p (T j i k) (-(T i j k))) ∧ (∀ i k, T i i k = 0)
def tt_br (p : Int) (N : Nat) (T : Nat → Nat → Nat → Int) (br : Nat → Int) : Prop := ∀ i j, i < 5 → j < 5 → br (5 * i + j) = nn_nm p N (T i j)
def tt_bk (p : Int) (N : Nat) (T : Nat → Nat → Nat → Int) (u v : Nat → Int) (k : Nat) : Int := nn_sm N (fun i => nn_sm N (fun j => u i * v j * T i j k)) % p
def tt_pr (T : Nat → Nat → Nat → Int) (u v : Nat → Int) (k i J : Nat) : Int := nn_sm J (fun j => if i < j then (u i * v j - v i * u j) * T i j k else 0)
theorem tt_pr_total {p : Int} {N : Nat} {T : Nat → Nat → Nat → Int} (ht : tt_ok p N T) (u v : Nat → Int) (k : Nat) : nn_sm N (fun i => tt_pr T u v k i N) % p = tt_bk p N T u v k := by
  obtain ⟨-, -, -, -, -, ha, hd⟩ := ht
  refine nn_eq_iff.mp (nn_eq_symm ?_)
  have e1 : nn_sm N (fun i => nn_sm N (fun j => u i * v j * T i j k)) = nn_sm N (fun i => nn_sm N (fun j => if i < j then u i * v j * T i j k else 0)) + nn_sm N (fun i => nn_sm N (fun j => if j < i then u i * v j * T i j k else 0)) := by
    rw [← nn_sm_add]
    refine nn_sm_congr N (fun i hi => ?_)
    rw [← nn_sm_add]
    refine nn_sm_congr N (fun j hj => ?_)
    by_cases h1 : i < j
    · rw [if_pos h1, if_neg (by omega)]; omega
    · by_cases h2 : j < i
      · rw [if_neg h1, if_pos h2]; omega
      · rw [if_neg h1, if_neg h2, show j = i by omega, hd i k, Int.mul_zero]
        rfl
  rw [e1, nn_sm_comm N N (fun i j => if j < i then u i * v j * T i j k else 0), ← nn_sm_add]
  refine nn_eq_sm N (fun i hi => ?_)
  rw [← nn_sm_add]
  refine nn_eq_sm N (fun j hj => ?_)
  by_cases h1 : i < j
  · simp only [if_pos h1]
    have e2 : (u i * v j - v i * u j) * T i j k = u i * v j * T i j k + u j * v i * -(T i j k) := by
      rw [Int.sub_mul, Int.mul_neg, Int.mul_comm (u j) (v i)]
      omega
    rw [e2]
    exact nn_eq_add (nn_eq_rfl p _) (nn_eq_mul (nn_eq_rfl p _) (ha i j k))
  · simp only [if_neg h1]
    exact nn_eq_rfl p _
section TABLE3
variable {X : pj_X} {Q : pj_Q} {p n : Int} {N : Nat} {T : Nat → Nat → Nat → Int} {br : Nat → Int}
abbrev w_T (p n : Int) (br : Nat → Int) : List pj_C := [c_T (.inl p) (.inl n) (.inr 1), c_A 25 br]
theorem tt_num {f : Nat → Int} (hp : nn_p p) (hN : N ≤ 5) : 0 ≤ nn_nm p N (fun k => f k % p) ∧ nn_nm p N (fun k => f k % p) ≤ 2147483647 := by
  have hp1 := (nn_p_pos hp).1
  have h := nn_nm_rg hp1 N (f := fun k => f k % p) (fun k _ => ⟨Int.emod_nonneg _ (by omega), Int.emod_lt_of_pos _ hp1⟩)
  have h2 := nn_pwle hp N hN
  omega
theorem tt_brn (ht : tt_ok p N T) (hb : tt_br p N T br) {i j : Nat} (hi : i < 5) (hj : j < 5) : (0 ≤ br (5 * i + j) ∧ br (5 * i + j) ≤ 2147483647) ∧ ∀ k, k < N → nn_dg p (br (5 * i + j)) k = T i j k := by
  obtain ⟨hp, h1, hN, hT, -⟩ := ht
  have hp1 := (nn_p_pos hp).1
  rw [hb i j hi hj]
  have h := nn_nm_rg hp1 N (f := T i j) (fun k _ => hT i j k)
  have h2 := nn_pwle hp N hN
  exact ⟨by omega, fun k hk => nn_dg_nm hp1 N (fun k _ => hT i j k) k hk⟩
set_option maxHeartbeats 1000000 in
theorem c_product_in (ht : tt_ok p N T) (hb : tt_br p N T br) (hn : n = N) {u v : Int} (hu : 0 ≤ u ∧ u ≤ 2147483647) (hv : 0 ≤ v ∧ v ≤ 2147483647) (S : Nat → Int) {I : Nat} {i : Int} (hI : I < N) (hi : i = I)
    (hQ : ∀ (j d : pj_V), pj_WP X m_Table_product 111 [.inr 0, .inl u, .inl v, .inl (nn_nm p N (fun k => (S k + tt_pr T (nn_dg p u) (nn_dg p v) k I N) % p)), .inl i, .inl (nn_dg p u I), .inl (nn_dg p v I), j, d] [] (w_T p n br) Q) :
    ∀ (m J : Nat) (r j : Int) (d : pj_V), J + m = N → j = J → r = nn_nm p N (fun k => (S k + tt_pr T (nn_dg p u) (nn_dg p v) k I J) % p) → I < J →
      pj_WP X m_Table_product 38 [.inr 0, .inl u, .inl v, .inl r, .inl i, .inl (nn_dg p u I), .inl (nn_dg p v I), .inl j, d] [] (w_T p n br) Q := by
  obtain ⟨hp, h1N, hN, hT, -⟩ := id ht
  obtain ⟨hp1, hp2, hp3⟩ := nn_p_pos hp
  intro m
  induction m with
  | zero =>
    intro J r j d hJ hj hr hIJ
    refine wp_b rfl (by omega) (fun c => ?_) (fun c => absurd c (by omega))
    rw [hr, show J = N by omega]
    exact hQ _ _
  | succ m ih =>
    intro J r j d hJ hj hr hIJ
    have ru := nn_dg_rg hp1 I u
    have rv := nn_dg_rg hp1 I v
    have ru2 := nn_dg_rg hp1 J u
    have rv2 := nn_dg_rg hp1 J v
    have q1 := nn_f7 hp ru rv2
    have q2 := nn_f7 hp rv ru2
    have hrr := tt_num (f := fun k => S k + tt_pr T (nn_dg p u) (nn_dg p v) k I J) hp hN
    rw [← hr] at hrr
    obtain ⟨hbr, hbd⟩ := tt_brn ht hb (i := I) (j := J) (by omega) (by omega)
    have step : ∀ k, tt_pr T (nn_dg p u) (nn_dg p v) k I (J + 1) = tt_pr T (nn_dg p u) (nn_dg p v) k I J + (nn_dg p u I * nn_dg p v J - nn_dg p v I * nn_dg p u J) * T I J k := fun k => by
      show tt_pr T (nn_dg p u) (nn_dg p v) k I J + (if I < J then _ else 0) = _
      rw [if_pos hIJ]
    refine wp_b rfl (by omega) (fun c => absurd c (by omega)) (fun c => ?_)
    have main : pj_WP X m_Table_product 57 [.inr 0, .inl u, .inl v, .inl r, .inl i, .inl (nn_dg p u I), .inl (nn_dg p v I), .inl j, d] [] (w_T p n br) Q := by
      refine wp_c rfl (by omega) [0] (c_coord (K := J) hp hv (by omega) hj ?_) rfl rfl rfl rfl
      refine wp_c rfl (by omega) [0] (c_coord (K := J) hp hu (by omega) hj ?_) rfl rfl rfl rfl
      refine wp_c rfl (by omega) [0] (c_reduce hp (by unfold pj_rg; omega) ?_) rfl rfl rfl rfl
      have f1 := Int.emod_nonneg (nn_dg p u I * nn_dg p v J - nn_dg p v I * nn_dg p u J) (show p ≠ 0 by omega)
      have f2 := Int.emod_lt_of_pos (nn_dg p u I * nn_dg p v J - nn_dg p v I * nn_dg p u J) hp1
      refine wp_b rfl (by omega) (fun c2 => ?_) (fun c2 => ?_)
      · refine wp_g rfl (by omega) ?_
        refine ih (J + 1) _ _ _ (by omega) (by omega) ?_ (by omega)
        rw [hr]
        refine nn_nm_congr N (fun k hk => ?_)
        rw [step k, ← Int.add_assoc]
        refine nn_eq_iff.mp ?_
        have z : nn_eq p ((nn_dg p u I * nn_dg p v J - nn_dg p v I * nn_dg p u J) * T I J k) (0 * T I J k) := nn_eq_mul (nn_eq_iff.mpr (by rw [c2, Int.zero_emod])) (nn_eq_rfl p _)
        rw [Int.zero_mul] at z
        have := nn_eq_add (nn_eq_rfl p (S k + tt_pr T (nn_dg p u) (nn_dg p v) k I J)) (nn_eq_symm z)
        rw [Int.add_zero] at this
        exact this
      · refine wp_c rfl (by omega) [0, 1] (c_entry (I := I) (J := J) hi hj (by omega) (by omega) ?_) rfl rfl rfl rfl
        refine wp_c rfl (by omega) [0] (c_plus (N := N) hp hN hn hrr hbr (by unfold pj_rg; omega) ?_) rfl rfl rfl rfl
        refine wp_g rfl (by omega) ?_
        refine ih (J + 1) _ _ _ (by omega) (by omega) ?_ (by omega)
        refine nn_nm_congr N (fun k hk => ?_)
        have hrg : ∀ k, k < N → 0 ≤ (S k + tt_pr T (nn_dg p u) (nn_dg p v) k I J) % p ∧ (S k + tt_pr T (nn_dg p u) (nn_dg p v) k I J) % p < p := fun k _ => ⟨Int.emod_nonneg _ (by omega), Int.emod_lt_of_pos _ hp1⟩
        rw [hbd k hk, hr, nn_dg_nm hp1 N hrg k hk, step k, ← Int.add_assoc]
        exact nn_eq_iff.mp (nn_eq_add (nn_eq_mod p _) (nn_eq_mul (nn_eq_mod p _) (nn_eq_rfl p _)))
    refine wp_b rfl (by omega) (fun c1 => main) (fun c1 => ?_)
    refine wp_b rfl (by omega) (fun c2 => ?_) (fun c2 => main)
    have eu : nn_dg p u I = 0 := Decidable.of_not_not c1
    have hfin : nn_nm p N (fun k => (S k + tt_pr T (nn_dg p u) (nn_dg p v) k I N) % p) = r := by
      rw [hr]
      refine nn_nm_congr N (fun k hk => ?_)
      have z : ∀ J, tt_pr T (nn_dg p u) (nn_dg p v) k I J = 0 := fun J => by
        refine nn_sm_0 J (fun j _ => ?_)
        split
        · rw [eu, c2, Int.zero_mul, Int.zero_mul, Int.sub_zero, Int.zero_mul]
        · rfl
      rw [z N, z J]
    rw [← hfin]
    exact hQ _ _
set_option maxHeartbeats 1000000 in
theorem c_product_out (ht : tt_ok p N T) (hb : tt_br p N T br) (hn : n = N) {u v : Int} (hu : 0 ≤ u ∧ u ≤ 2147483647) (hv : 0 ≤ v ∧ v ≤ 2147483647) (hQ : Q (some (.inl (nn_nm p N (tt_bk p N T (nn_dg p u) (nn_dg p v))))) (w_T p n br)) :
    ∀ (m I : Nat) (r i : Int) (d1 d2 d3 d4 : pj_V), I + m = N → i = I → r = nn_nm p N (fun k => nn_sm I (fun i => tt_pr T (nn_dg p u) (nn_dg p v) k i N) % p) →
      pj_WP X m_Table_product 5 [.inr 0, .inl u, .inl v, .inl r, .inl i, d1, d2, d3, d4] [] (w_T p n br) Q := by
  obtain ⟨hp, h1N, hN, hT, -⟩ := id ht
  intro m
  induction m with
  | zero =>
    intro I r i d1 d2 d3 d4 hI hi hr
    refine wp_b rfl (by omega) (fun c => ?_) (fun c => absurd c (by omega))
    refine wp_r rfl (by omega) ?_
    rw [hr, show I = N by omega, nn_nm_congr N (fun k _ => tt_pr_total ht (nn_dg p u) (nn_dg p v) k)]
    exact hQ
  | succ m ih =>
    intro I r i d1 d2 d3 d4 hI hi hr
    refine wp_b rfl (by omega) (fun c => absurd c (by omega)) (fun c => ?_)
    refine wp_c rfl (by omega) [0] (c_coord (K := I) hp hu (by omega) hi ?_) rfl rfl rfl rfl
    refine wp_c rfl (by omega) [0] (c_coord (K := I) hp hv (by omega) hi ?_) rfl rfl rfl rfl
    refine wp_g rfl (by omega) ?_
    refine c_product_in ht hb hn hu hv (fun k => nn_sm I (fun i => tt_pr T (nn_dg p u) (nn_dg p v) k i N)) (by omega) hi (fun j d => ?_) (N - (I + 1)) (I + 1) _ _ _ (by omega) (by omega) ?_ (by omega)
    · refine wp_g rfl (by omega) ?_
      exact ih (I + 1) _ _ _ _ _ _ (by omega) (by omega) rfl
    · rw [hr]
      refine nn_nm_congr N (fun k _ => ?_)
      have z : tt_pr T (nn_dg p u) (nn_dg p v) k I (I + 1) = 0 := nn_sm_0 _ (fun j hj => by rw [if_neg (by omega)])
      rw [z, Int.add_zero]
/-- product(u, v): the bracket -/
theorem c_product (ht : tt_ok p N T) (hb : tt_br p N T br) (hn : n = N) {u v : Int} (hu : 0 ≤ u ∧ u ≤ 2147483647) (hv : 0 ≤ v ∧ v ≤ 2147483647) (hQ : Q (some (.inl (nn_nm p N (tt_bk p N T (nn_dg p u) (nn_dg p v))))) (w_T p n br)) : pj_ci X m_Table_product [.inr 0, .inl u, .inl v] (w_T p n br) Q := by
  refine wp_g rfl (by omega) ?_
  exact c_product_out ht hb hn hu hv hQ N 0 _ _ _ _ _ _ (by omega) (by omega) (nn_nm_eq0 N (fun k _ => Int.zero_emod p)).symm
end TABLE3
