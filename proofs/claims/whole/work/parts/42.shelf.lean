/-! Table.jacobiValue, pairsWithBracket; Shelf -/
section SHELF
variable {X : pj_X} {Q : pj_Q} {p n : Int} {N : Nat} {T : Nat → Nat → Nat → Int} {br : Nat → Int}
/-- one of the three summands: [e_i, [e_j, e_k]] -/
def jc_t (p : Int) (N : Nat) (T : Nat → Nat → Nat → Int) (i j k : Nat) : ln_V := tt_bk p N T (ln_e i) (T j k)
/-- the Jacobi sum of three basis vectors -/
def jc_s (p : Int) (N : Nat) (T : Nat → Nat → Nat → Int) (i j k : Nat) (c : Nat) : Int := (jc_t p N T i j k c + jc_t p N T j k i c + jc_t p N T k i j c) % p
theorem jc_num (ht : tt_ok p N T) (hb : tt_br p N T br) {I J K : Nat} (hJ : J < 5) (hK : K < 5) : nn_nm p N (tt_bk p N T (nn_dg p (p ^ I)) (nn_dg p (br (5 * J + K)))) = nn_nm p N (jc_t p N T I J K) := by
  obtain ⟨hp, h1N, hN, hT, -⟩ := id ht
  have hp1 := (nn_p_pos hp).1
  refine nn_nm_congr N (fun c _ => ?_)
  refine nn_eq_red (tt_bk_congr (fun i _ => ?_) (fun k hk => ?_) c) (tt_bk_rg hp1 _ _ _) (tt_bk_rg hp1 _ _ _)
  · rw [nn_dg_pw hp]; exact nn_eq_rfl p _
  · rw [(tt_brn ht hb hJ hK).2 k hk]; exact nn_eq_rfl p _
theorem jc_rg (hp : nn_p p) (hN : N ≤ 5) {f : Nat → Int} (hf : ∀ c, c < N → 0 ≤ f c ∧ f c < p) : 0 ≤ nn_nm p N f ∧ nn_nm p N f ≤ 2147483647 := by
  have h := nn_nm_rg (nn_p_pos hp).1 N hf
  have h2 := nn_pwle hp N hN
  omega
theorem jc_plus (hp : nn_p p) {f g : Nat → Int} (hf : ∀ c, c < N → 0 ≤ f c ∧ f c < p) (hg : ∀ c, c < N → 0 ≤ g c ∧ g c < p) : nn_plus p N (nn_nm p N f) (nn_nm p N g) 1 = nn_nm p N (fun c => (f c + g c) % p) := by
  refine nn_nm_congr N (fun c hc => ?_)
  rw [nn_dg_nm (nn_p_pos hp).1 N hf c hc, nn_dg_nm (nn_p_pos hp).1 N hg c hc, Int.one_mul]
/-- jacobiValue(i, j, k) -/
theorem c_jacobi (ht : tt_ok p N T) (hb : tt_br p N T br) (hn : n = N) {i j k : Int} {I J K : Nat} (hi : i = I) (hj : j = J) (hk : k = K) (hI : I < N) (hJ : J < N) (hK : K < N) (hQ : Q (some (.inl (nn_nm p N (jc_s p N T I J K)))) (w_T p n br)) : pj_ci X m_Table_jacobiValue [.inr 0, .inl i, .inl j, .inl k] (w_T p n br) Q := by
  obtain ⟨hp, h1N, hN, hT, -⟩ := id ht
  have hp1 := (nn_p_pos hp).1
  have pw : ∀ A : Nat, A < N → 0 ≤ p ^ A ∧ p ^ A ≤ 2147483647 := fun A hA => by
    have := nn_pw1 hp1 A
    have := nn_pwle hp A (by omega)
    omega
  have en : ∀ A B : Nat, A < N → B < N → 0 ≤ br (5 * A + B) ∧ br (5 * A + B) ≤ 2147483647 := fun A B hA hB => (tt_brn ht hb (by omega) (by omega)).1
  have jr : ∀ A B C c : Nat, 0 ≤ jc_t p N T A B C c ∧ jc_t p N T A B C c < p := fun A B C c => tt_bk_rg hp1 _ _ _
  have r2 : ∀ c, c < N → 0 ≤ (jc_t p N T I J K c + jc_t p N T J K I c) % p ∧ (jc_t p N T I J K c + jc_t p N T J K I c) % p < p := fun c _ => ⟨Int.emod_nonneg _ (by omega), Int.emod_lt_of_pos _ hp1⟩
  refine wp_c rfl (by omega) [0] (c_power (E := I) (by omega) hi ?_) rfl rfl rfl rfl
  refine wp_c rfl (by omega) [0, 1] (c_entry (I := J) (J := K) hj hk (by omega) (by omega) ?_) rfl rfl rfl rfl
  refine wp_c rfl (by omega) [0, 1] (c_product ht hb hn (pw I hI) (en J K hJ hK) ?_) rfl rfl rfl rfl
  rw [jc_num ht hb (by omega) (by omega)]
  refine wp_h (w_T p n br) rfl ?_
  refine wp_c rfl (by omega) [0] (c_power (E := J) (by omega) hj ?_) rfl rfl rfl rfl
  refine wp_c rfl (by omega) [0, 1] (c_entry (I := K) (J := I) hk hi (by omega) (by omega) ?_) rfl rfl rfl rfl
  refine wp_c rfl (by omega) [0, 1] (c_product ht hb hn (pw J hJ) (en K I hK hI) ?_) rfl rfl rfl rfl
  rw [jc_num ht hb (by omega) (by omega)]
  refine wp_h (w_T p n br) rfl ?_
  refine wp_c rfl (by omega) [0] (c_plus hp hN hn (jc_rg hp hN (fun c _ => jr I J K c)) (jc_rg hp hN (fun c _ => jr J K I c)) (by unfold pj_rg; omega) ?_) rfl rfl rfl rfl
  rw [jc_plus hp (fun c _ => jr I J K c) (fun c _ => jr J K I c)]
  refine wp_h (w_T p n br) rfl ?_
  refine wp_c rfl (by omega) [0] (c_power (E := K) (by omega) hk ?_) rfl rfl rfl rfl
  refine wp_c rfl (by omega) [0, 1] (c_entry (I := I) (J := J) hi hj (by omega) (by omega) ?_) rfl rfl rfl rfl
  refine wp_c rfl (by omega) [0, 1] (c_product ht hb hn (pw K hK) (en I J hI hJ) ?_) rfl rfl rfl rfl
  rw [jc_num ht hb (by omega) (by omega)]
  refine wp_h (w_T p n br) rfl ?_
  refine wp_c rfl (by omega) [0] (c_plus hp hN hn (jc_rg hp hN r2) (jc_rg hp hN (fun c _ => jr K I J c)) (by unfold pj_rg; omega) ?_) rfl rfl rfl rfl
  rw [jc_plus hp r2 (fun c _ => jr K I J c)]
  refine wp_h (w_T p n br) rfl ?_
  refine wp_r rfl (by omega) ?_
  rw [show nn_nm p N (fun c => ((jc_t p N T I J K c + jc_t p N T J K I c) % p + jc_t p N T K I J c) % p) = nn_nm p N (jc_s p N T I J K) from nn_nm_congr N (fun c _ => Int.emod_add_emod _ _ _)]
  exact hQ
end SHELF
