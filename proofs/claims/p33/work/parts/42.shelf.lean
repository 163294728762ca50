/-! Table.jacobiValue, pairsWithBracket; Shelf -/
section SHELF
variable {X : pj_X} {Q : pj_Q} {p n : Int} {N : Nat} {T : Nat → Nat → Nat → Int} {br : Nat → Int}
/-- one of the three summands: [e_i, [e_j, e_k]] -/
def jc_t (p : Int) (N : Nat) (T : Nat → Nat → Nat → Int) (i j k : Nat) : ln_V := tt_bk p N T (ln_e i) (T j k)
/-- the Jacobi sum of three basis vectors -/
def jc_s (p : Int) (N : Nat) (T : Nat → Nat → Nat → Int) (i j k : Nat) (c : Nat) : Int := (jc_t p N T i j k c + jc_t p N T j k i c + jc_t p N T k i j c) % p
theorem jc_num (ht : tt_ok p N T) (hb : tt_br p N T br) {I J K : Nat} (hJ : J < 5) (hK : K < 5) : nn_nm p N (tt_bk p N T (nn_dg p (p ^ I)) (nn_dg p (br (5 * J + K)))) = nn_nm p N (jc_t p N T I J K) := by
  obtain ⟨hp, h1N, hN, hT, -⟩ := id ht
  have hp1 := (nn_p_pos hp).1
  refine nn_nm_congr N (fun c _ => ?_)
  refine nn_eq_red (tt_bk_congr (fun i _ => ?_) (fun k hk => ?_) c) (tt_bk_rg hp1 _ _ _) (tt_bk_rg hp1 _ _ _)
  · rw [nn_dg_pw hp]; exact nn_eq_rfl p _
  · rw [(tt_brn ht hb hJ hK).2 k hk]; exact nn_eq_rfl p _
theorem jc_rg (hp : nn_p p) (hN : N ≤ 5) {f : Nat → Int} (hf : ∀ c, c < N → 0 ≤ f c ∧ f c < p) : 0 ≤ nn_nm p N f ∧ nn_nm p N f ≤ 2147483647 := by
  have h := nn_nm_rg (nn_p_pos hp).1 N hf
  have h2 := nn_pwle hp N hN
  omega
theorem jc_plus (hp : nn_p p) {f g : Nat → Int} (hf : ∀ c, c < N → 0 ≤ f c ∧ f c < p) (hg : ∀ c, c < N → 0 ≤ g c ∧ g c < p) : nn_plus p N (nn_nm p N f) (nn_nm p N g) 1 = nn_nm p N (fun c => (f c + g c) % p) := by
  refine nn_nm_congr N (fun c hc => ?_)
  rw [nn_dg_nm (nn_p_pos hp).1 N hf c hc, nn_dg_nm (nn_p_pos hp).1 N hg c hc, Int.one_mul]
/-- jacobiValue(i, j, k) -/
theorem c_jacobi (ht : tt_ok p N T) (hb : tt_br p N T br) (hn : n = N) {i j k : Int} {I J K : Nat} (hi : i = I) (hj : j = J) (hk : k = K) (hI : I < N) (hJ : J < N) (hK : K < N) (hQ : Q (some (.inl (nn_nm p N (jc_s p N T I J K)))) (w_T p n br)) : pj_ci X m_Table_jacobiValue [.inr 0, .inl i, .inl j, .inl k] (w_T p n br) Q := by
  obtain ⟨hp, h1N, hN, hT, -⟩ := id ht
  have hp1 := (nn_p_pos hp).1
  have pw : ∀ A : Nat, A < N → 0 ≤ p ^ A ∧ p ^ A ≤ 2147483647 := fun A hA => by
    have := nn_pw1 hp1 A
    have := nn_pwle hp A (by omega)
    omega
  have en : ∀ A B : Nat, A < N → B < N → 0 ≤ br (5 * A + B) ∧ br (5 * A + B) ≤ 2147483647 := fun A B hA hB => (tt_brn ht hb (by omega) (by omega)).1
  have jr : ∀ A B C c : Nat, 0 ≤ jc_t p N T A B C c ∧ jc_t p N T A B C c < p := fun A B C c => tt_bk_rg hp1 _ _ _
  have r2 : ∀ c, c < N → 0 ≤ (jc_t p N T I J K c + jc_t p N T J K I c) % p ∧ (jc_t p N T I J K c + jc_t p N T J K I c) % p < p := fun c _ => ⟨Int.emod_nonneg _ (by omega), Int.emod_lt_of_pos _ hp1⟩
  refine wp_c rfl (by omega) [0] (c_power (E := I) (by omega) hi ?_) rfl rfl rfl rfl
  refine wp_c rfl (by omega) [0, 1] (c_entry (I := J) (J := K) hj hk (by omega) (by omega) ?_) rfl rfl rfl rfl
  refine wp_c rfl (by omega) [0, 1] (c_product ht hb hn (pw I hI) (en J K hJ hK) ?_) rfl rfl rfl rfl
  rw [jc_num ht hb (by omega) (by omega)]
  refine wp_h (w_T p n br) rfl ?_
  refine wp_c rfl (by omega) [0] (c_power (E := J) (by omega) hj ?_) rfl rfl rfl rfl
  refine wp_c rfl (by omega) [0, 1] (c_entry (I := K) (J := I) hk hi (by omega) (by omega) ?_) rfl rfl rfl rfl
  refine wp_c rfl (by omega) [0, 1] (c_product ht hb hn (pw J hJ) (en K I hK hI) ?_) rfl rfl rfl rfl
  rw [jc_num ht hb (by omega) (by omega)]
  refine wp_h (w_T p n br) rfl ?_
  refine wp_c rfl (by omega) [0] (c_plus hp hN hn (jc_rg hp hN (fun c _ => jr I J K c)) (jc_rg hp hN (fun c _ => jr J K I c)) (by unfold pj_rg; omega) ?_) rfl rfl rfl rfl
  rw [jc_plus hp (fun c _ => jr I J K c) (fun c _ => jr J K I c)]
  refine wp_h (w_T p n br) rfl ?_
  refine wp_c rfl (by omega) [0] (c_power (E := K) (by omega) hk ?_) rfl rfl rfl rfl
  refine wp_c rfl (by omega) [0, 1] (c_entry (I := I) (J := J) hi hj (by omega) (by omega) ?_) rfl rfl rfl rfl
  refine wp_c rfl (by omega) [0, 1] (c_product ht hb hn (pw K hK) (en I J hI hJ) ?_) rfl rfl rfl rfl
  rw [jc_num ht hb (by omega) (by omega)]
  refine wp_h (w_T p n br) rfl ?_
  refine wp_c rfl (by omega) [0] (c_plus hp hN hn (jc_rg hp hN r2) (jc_rg hp hN (fun c _ => jr K I J c)) (by unfold pj_rg; omega) ?_) rfl rfl rfl rfl
  rw [jc_plus hp r2 (fun c _ => jr K I J c)]
  refine wp_h (w_T p n br) rfl ?_
  refine wp_r rfl (by omega) ?_
  rw [show nn_nm p N (fun c => ((jc_t p N T I J K c + jc_t p N T J K I c) % p + jc_t p N T K I J c) % p) = nn_nm p N (jc_s p N T I J K) from nn_nm_congr N (fun c _ => Int.emod_add_emod _ _ _)]
  exact hQ
def jc_c (br : Nat → Int) (i J : Nat) : Int := nn_sm J (fun j => if br (5 * i + j) = 0 then 0 else 1)
def jc_cc (br : Nat → Int) (N I : Nat) : Int := nn_sm I (fun i => jc_c br i N)
theorem jc_c_rg (br : Nat → Int) (i : Nat) : ∀ J : Nat, 0 ≤ jc_c br i J ∧ jc_c br i J ≤ J
  | 0 => ⟨Int.le_refl 0, Int.le_refl 0⟩
  | J + 1 => by
    have h := jc_c_rg br i J
    have e : jc_c br i (J + 1) = jc_c br i J + (if br (5 * i + J) = 0 then 0 else 1) := rfl
    rw [e]
    split <;> omega
theorem jc_cc_rg (br : Nat → Int) {N : Nat} (hN : N ≤ 5) : ∀ I : Nat, 0 ≤ jc_cc br N I ∧ jc_cc br N I ≤ 5 * I
  | 0 => ⟨Int.le_refl 0, Int.le_refl 0⟩
  | I + 1 => by
    have h := jc_cc_rg br hN I
    have h2 := jc_c_rg br I N
    have e : jc_cc br N (I + 1) = jc_cc br N I + jc_c br I N := rfl
    rw [e]
    omega
theorem c_pairs_in (hb : ∀ k, k < 25 → -2147483648 ≤ br k ∧ br k ≤ 2147483647) (hN : N ≤ 5) (hn : n = N) {I : Nat} {i : Int} (hI : I < N) (hi : i = I)
    (hQ : ∀ d : pj_V, pj_WP X m_Table_pairsWithBracket 40 [.inr 0, .inl (jc_cc br N I + jc_c br I N), .inl i, d] [] [c_T v_u (.inl n) (.inr 1), c_A 25 br] Q) :
    ∀ (m J : Nat) (r j : Int), J + m = N → j = J → r = jc_cc br N I + jc_c br I J → pj_WP X m_Table_pairsWithBracket 14 [.inr 0, .inl r, .inl i, .inl j] [] [c_T v_u (.inl n) (.inr 1), c_A 25 br] Q := by
  intro m
  have b1 := jc_cc_rg br hN I
  induction m with
  | zero =>
    intro J r j hJ hj hr
    refine wp_b rfl (by omega) (fun c => ?_) (fun c => absurd c (by omega))
    rw [hr, show J = N by omega]
    exact hQ _
  | succ m ih =>
    intro J r j hJ hj hr
    have b2 := jc_c_rg br I J
    have e : jc_c br I (J + 1) = jc_c br I J + (if br (5 * I + J) = 0 then 0 else 1) := rfl
    refine wp_b rfl (by omega) (fun c => absurd c (by omega)) (fun c => ?_)
    refine wp_c rfl (by omega) [0, 1] (c_entry (I := I) (J := J) hi hj (by omega) (by omega) ?_) rfl rfl rfl rfl
    have hb2 := hb (5 * I + J) (by omega)
    refine wp_b rfl (by omega) (fun c2 => ?_) (fun c2 => ?_)
    · refine wp_g rfl (by omega) ?_
      refine ih (J + 1) _ _ (by omega) (by omega) ?_
      rw [e, if_pos c2]
      omega
    · refine wp_g rfl (by omega) ?_
      refine ih (J + 1) _ _ (by omega) (by omega) ?_
      rw [e, if_neg c2]
      omega
theorem c_pairs_out (hb : ∀ k, k < 25 → -2147483648 ≤ br k ∧ br k ≤ 2147483647) (hN : N ≤ 5) (hn : n = N) (hQ : Q (some (.inl (jc_cc br N N))) [c_T v_u (.inl n) (.inr 1), c_A 25 br]) :
    ∀ (m I : Nat) (r i : Int) (d : pj_V), I + m = N → i = I → r = jc_cc br N I → pj_WP X m_Table_pairsWithBracket 4 [.inr 0, .inl r, .inl i, d] [] [c_T v_u (.inl n) (.inr 1), c_A 25 br] Q := by
  intro m
  induction m with
  | zero =>
    intro I r i d hI hi hr
    refine wp_b rfl (by omega) (fun c => ?_) (fun c => absurd c (by omega))
    refine wp_r rfl (by omega) ?_
    rw [hr, show I = N by omega]
    exact hQ
  | succ m ih =>
    intro I r i d hI hi hr
    refine wp_b rfl (by omega) (fun c => absurd c (by omega)) (fun c => ?_)
    refine wp_g rfl (by omega) ?_
    refine c_pairs_in hb hN hn (I := I) (by omega) hi (fun d => ?_) N 0 _ _ (by omega) (by omega) ?_
    · refine wp_g rfl (by omega) ?_
      exact ih (I + 1) _ _ _ (by omega) (by omega) rfl
    · rw [hr]
      exact (Int.add_zero _).symm
/-- pairsWithBracket() -/
theorem c_pairs (hb : ∀ k, k < 25 → -2147483648 ≤ br k ∧ br k ≤ 2147483647) (hN : N ≤ 5) (hn : n = N) (hQ : Q (some (.inl (jc_cc br N N))) [c_T v_u (.inl n) (.inr 1), c_A 25 br]) : pj_ci X m_Table_pairsWithBracket [.inr 0] [c_T v_u (.inl n) (.inr 1), c_A 25 br] Q := by
  refine wp_g rfl (by omega) ?_
  exact c_pairs_out hb hN hn hQ N 0 _ _ _ (by omega) (by omega) rfl
/-! Shelf -/
abbrev c_Sh (p c : pj_V) : pj_C := .inr (3, [p, c])
/-- isEmpty(place) -/
theorem c_isEmpty {P K : Nat} {f : Nat → Int} {k : Int} (hP : P ≤ 6) (hk : k = K) (hK : K < P) (hf : -2147483648 ≤ f (27 * K) ∧ f (27 * K) ≤ 2147483647) (h1 : f (27 * K) = 0 → Q (some (.inl 1)) [c_Sh v_u (.inr 1), c_A (P * 27) f]) (h0 : f (27 * K) ≠ 0 → Q (some (.inl 0)) [c_Sh v_u (.inr 1), c_A (P * 27) f]) : pj_ci X m_Shelf_isEmpty [.inr 0, .inl k] [c_Sh v_u (.inr 1), c_A (P * 27) f] Q := by
  refine wp_c rfl (by omega) [1] (c_at (I := 27 * K) (by omega) (by omega) (by omega) ?_) rfl rfl rfl rfl
  refine wp_b rfl (by omega) (fun c => ?_) (fun c => ?_)
  · exact wp_r rfl (by omega) (h0 c)
  · exact wp_r rfl (by omega) (h1 (Decidable.of_not_not c))
/-- the cells of a shelf after keep -/
def sh_k (f : Nat → Int) (K : Nat) (p n : Int) (br : Nat → Int) : Nat → Int := va_cpy br (pj_up (pj_up f (27 * K) p) (27 * K + 1) n) 0 (27 * K + 2) 25
/-- keep(place, table) -/
theorem c_keep {P K : Nat} {f : Nat → Int} {k : Int} (hP : P ≤ 6) (hk : k = K) (hK : K < P) (hQ : Q none [c_Sh (.inl (P : Int)) (.inr 1), c_A (P * 27) (sh_k f K p n br), c_T (.inl p) (.inl n) (.inr 3), c_A 25 br]) : pj_ci X m_Shelf_keep [.inr 0, .inl k, .inr 2] [c_Sh (.inl (P : Int)) (.inr 1), c_A (P * 27) f, c_T (.inl p) (.inl n) (.inr 3), c_A 25 br] Q := by
  refine wp_b rfl (by omega) (fun c => absurd c (by omega)) (fun c => ?_)
  refine wp_b rfl (by omega) (fun c => ?_) (fun c => absurd c (by omega))
  refine wp_r rfl (by omega) ?_
  have e1 : (k * 27).toNat = 27 * K := by omega
  have e2 : (k * 27 + 1).toNat = 27 * K + 1 := by omega
  have e3 : (k * 27 + 2).toNat = 27 * K + 2 := by omega
  show Q none [c_Sh (.inl (P : Int)) (.inr 1), c_A (P * 27) (va_cpy br (pj_up (pj_up f (k * 27).toNat p) (k * 27 + 1).toNat n) 0 (k * 27 + 2).toNat 25), c_T (.inl p) (.inl n) (.inr 3), c_A 25 br]
  rw [e1, e2, e3]
  exact hQ
/-- fetch(place, table) -/
theorem c_fetch {P K : Nat} {f : Nat → Int} {k : Int} (hP : P ≤ 6) (hk : k = K) (hK : K < P) (hQ : Q none [c_Sh (.inl (P : Int)) (.inr 1), c_A (P * 27) f, c_T (.inl (f (27 * K))) (.inl (f (27 * K + 1))) (.inr 3), c_A 25 (va_cpy f br (27 * K + 2) 0 25)]) : pj_ci X m_Shelf_fetch [.inr 0, .inl k, .inr 2] [c_Sh (.inl (P : Int)) (.inr 1), c_A (P * 27) f, c_T v_u v_u (.inr 3), c_A 25 br] Q := by
  refine wp_b rfl (by omega) (fun c => absurd c (by omega)) (fun c => ?_)
  refine wp_b rfl (by omega) (fun c => ?_) (fun c => absurd c (by omega))
  refine wp_r rfl (by omega) ?_
  have e1 : (k * 27).toNat = 27 * K := by omega
  have e2 : (k * 27 + 1).toNat = 27 * K + 1 := by omega
  have e3 : (k * 27 + 2).toNat = 27 * K + 2 := by omega
  show Q none [c_Sh (.inl (P : Int)) (.inr 1), c_A (P * 27) f, c_T (.inl (f (k * 27).toNat)) (.inl (f (k * 27 + 1).toNat)) (.inr 3), c_A 25 (va_cpy f br (k * 27 + 2).toNat 0 25)]
  rw [e1, e2, e3]
  exact hQ
/-- dropFirst() -/
theorem c_dropFirst {f : Nat → Int} (hQ : Q none [c_Sh v_u (.inr 1), c_A 162 (va_cpy f f 27 0 135)]) : pj_ci X m_Shelf_dropFirst [.inr 0] [c_Sh v_u (.inr 1), c_A 162 f] Q := by
  exact wp_r rfl (by omega) hQ
end SHELF
