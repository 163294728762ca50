/-! Maps.nilpotency -/
section NIL
variable {X : pj_X} {Q : pj_Q} {p n : Int} {N : Nat} {T : Nat → Nat → Nat → Int} {br : Nat → Int}
/-- the images of a vector under the powers of ad V -/
def np_i (p : Int) (N : Nat) (T : Nat → Nat → Nat → Int) (V x : ln_V) : Nat → ln_V
  | 0 => x
  | k + 1 => tt_bk p N T V (np_i p N T V x k)
/-- it is 0 -/
def np_z (N : Nat) (x : ln_V) : Prop := ∀ c, c < N → x c = 0
theorem np_z_step (hp : 0 < p) {V x : ln_V} (h : np_z N x) : np_z N (tt_bk p N T V x) := fun c _ => by
  rw [tt_bk_red hp (u' := V) (v' := fun _ => 0) (fun c _ => nn_eq_rfl p _) (fun c hc => by rw [h c hc]; exact nn_eq_rfl p _) c]
  exact tt_bk_0r V c
theorem np_z_mono (hp : 0 < p) {V x : ln_V} {k : Nat} (h : np_z N (np_i p N T V x k)) : ∀ m : Nat, np_z N (np_i p N T V x (k + m))
  | 0 => h
  | m + 1 => np_z_step hp (np_z_mono hp h m)
theorem np_e (hp : nn_p p) {j : Nat} (hj : j < N) : ¬ np_z N (ln_e j) := fun h => by
  have := h j hj
  unfold ln_e at this
  rw [if_pos rfl] at this
  omega
theorem np_rg (hp : nn_p p) (V : ln_V) (j : Nat) : ∀ (k c : Nat), 0 ≤ np_i p N T V (ln_e j) k c ∧ np_i p N T V (ln_e j) k c < p
  | 0, c => by
    have := (nn_p_pos hp).2.1
    show 0 ≤ ln_e j c ∧ ln_e j c < p
    unfold ln_e
    split <;> omega
  | k + 1, c => tt_bk_rg (nn_p_pos hp).1 _ _ c
theorem np_num0 (hp : 0 < p) {x : ln_V} (hx : ∀ c, 0 ≤ x c ∧ x c < p) : nn_nm p N x = 0 ↔ np_z N x := by
  constructor
  · intro h c hc
    have := nn_dg_nm hp N (f := x) (fun c _ => hx c) c hc
    rw [h, nn_dg_0 hp] at this
    exact this.symm
  · exact fun h => nn_nm_eq0 N h
theorem np_pw (hp : nn_p p) {j : Nat} (hj : j < N) : p ^ j = nn_nm p N (ln_e j) := by
  have hp1 := (nn_p_pos hp).1
  have h1 := nn_pw1 hp1 j
  have e : nn_nm p N (nn_dg p (p ^ j)) = nn_nm p N (ln_e j) := nn_nm_congr N (fun c _ => nn_dg_pw hp j c)
  rw [← e]
  refine (nn_nm_dg hp1 N (by omega) ?_).symm
  obtain ⟨d, rfl⟩ : ∃ d, N = j + (d + 1) := ⟨N - j - 1, by omega⟩
  rw [Int.pow_add]
  have h2 := nn_pw1 hp1 d
  have h3 : p ^ (d + 1) = p ^ d * p := Int.pow_succ p d
  have h4 : 2 ≤ p ^ (d + 1) := by
    rw [h3]
    have := (nn_p_pos hp).2.1
    have h5 : 1 * 2 ≤ p ^ d * p := Int.mul_le_mul h2 this (by omega) (by omega)
    omega
  have h6 : p ^ j * 2 ≤ p ^ j * p ^ (d + 1) := Int.mul_le_mul_of_nonneg_left h4 (by omega)
  omega
theorem c_nil_in (ht : tt_ok p N T) (hb : tt_br p N T br) (hn : n = N) {v idx : Int} (hv : 0 ≤ v ∧ v ≤ 2147483647) {J : Nat} {j : Int} (hJ : J < N) (hj : j = J)
    (hQ : ∀ (S : Nat) (s : Int), s = S → S ≤ N → (∀ S', S' < S → ¬ np_z N (np_i p N T (nn_dg p v) (ln_e J) S')) → (S = N ∨ np_z N (np_i p N T (nn_dg p v) (ln_e J) S)) →
      pj_WP X m_Maps_nilpotency 63 [.inr 0, .inl v, .inl idx, .inl j, .inl (nn_nm p N (np_i p N T (nn_dg p v) (ln_e J) S)), .inl s] [] (w_M p n br) Q) :
    ∀ (m S : Nat) (s im : Int), S + m = N → s = S → im = nn_nm p N (np_i p N T (nn_dg p v) (ln_e J) S) → (∀ S', S' < S → ¬ np_z N (np_i p N T (nn_dg p v) (ln_e J) S')) →
      pj_WP X m_Maps_nilpotency 28 [.inr 0, .inl v, .inl idx, .inl j, .inl im, .inl s] [] (w_M p n br) Q := by
  obtain ⟨hp, h1N, hN, hT, -⟩ := id ht
  have hp1 := (nn_p_pos hp).1
  intro m
  induction m with
  | zero =>
    intro S s im hS hs him hno
    refine wp_b rfl (by omega) (fun c => ?_) (fun c => absurd c (by omega))
    rw [him]
    exact hQ S s hs (by omega) hno (Or.inl (by omega))
  | succ m ih =>
    intro S s im hS hs him hno
    have hr : 0 ≤ im ∧ im ≤ 2147483647 := by
      rw [him]
      exact jc_rg hp hN (fun c _ => np_rg hp _ _ _ c)
    refine wp_b rfl (by omega) (fun c => absurd c (by omega)) (fun c => ?_)
    refine wp_b rfl (by omega) (fun c2 => ?_) (fun c2 => ?_)
    · have hz := (np_num0 (N := N) hp1 (fun c => np_rg (T := T) hp (nn_dg p v) J S c)).mp (him ▸ c2)
      rw [him]
      exact hQ S s hs (by omega) hno (Or.inr hz)
    · refine wp_c rfl (by omega) [1, 2] (c_product ht hb hn hv hr ?_) rfl rfl rfl rfl
      refine wp_g rfl (by omega) ?_
      refine ih (S + 1) _ _ (by omega) (by omega) ?_ (fun S' h' => ?_)
      · refine nn_nm_congr N (fun c _ => tt_bk_red hp1 (fun c _ => nn_eq_rfl p _) ?_ c)
        rw [him]
        exact ln_eq_nm hp1 (fun c _ => np_rg hp _ _ _ c)
      · by_cases h : S' = S
        · subst h
          intro hz
          exact c2 (him ▸ (np_num0 hp1 (fun c => np_rg hp _ _ _ c)).mpr hz)
        · exact hno S' (by omega)
/-- what the answer k is: the least k >= 1 that kills all basis vectors -/
def np_is (p : Int) (N : Nat) (T : Nat → Nat → Nat → Int) (V : ln_V) (J k : Nat) : Prop := 1 ≤ k ∧ k ≤ N ∧ (∀ j, j < J → np_z N (np_i p N T V (ln_e j) k)) ∧ (k = 1 ∨ ∃ j, j < J ∧ ¬ np_z N (np_i p N T V (ln_e j) (k - 1)))
theorem c_nil_out (ht : tt_ok p N T) (hb : tt_br p N T br) (hn : n = N) {v : Int} (hv : 0 ≤ v ∧ v ≤ 2147483647)
    (h1 : ∀ k : Nat, np_is p N T (nn_dg p v) N k → Q (some (.inl (k : Int))) (w_M p n br))
    (h0 : (∃ j, j < N ∧ ¬ np_z N (np_i p N T (nn_dg p v) (ln_e j) N)) → Q (some (.inl (-9))) (w_M p n br)) :
    ∀ (m J K : Nat) (idx j : Int) (d1 d2 : pj_V), J + m = N → j = J → idx = K → np_is p N T (nn_dg p v) J K → pj_WP X m_Maps_nilpotency 4 [.inr 0, .inl v, .inl idx, .inl j, d1, d2] [] (w_M p n br) Q := by
  obtain ⟨hp, h1N, hN, hT, -⟩ := id ht
  have hp1 := (nn_p_pos hp).1
  intro m
  induction m with
  | zero =>
    intro J K idx j d1 d2 hJ hj hK his
    refine wp_b rfl (by omega) (fun c => ?_) (fun c => absurd c (by omega))
    refine wp_r rfl (by omega) ?_
    rw [show J = N by omega] at his
    rw [hK]
    exact h1 K his
  | succ m ih =>
    intro J K idx j d1 d2 hJ hj hK his
    obtain ⟨i1, i2, i3, i4⟩ := his
    refine wp_b rfl (by omega) (fun c => absurd c (by omega)) (fun c => ?_)
    refine wp_c rfl (by omega) [1] (c_power (E := J) (by omega) hj ?_) rfl rfl rfl rfl
    refine wp_g rfl (by omega) ?_
    refine c_nil_in ht hb hn hv (by omega) hj (fun S s hs hS hno hor => ?_) N 0 _ _ (by omega) (by omega) (np_pw hp (by omega)) (fun S' h' => absurd h' (by omega))
    have hr := jc_rg (N := N) hp hN (fun c _ => np_rg (N := N) (T := T) hp (nn_dg p v) J S c)
    refine wp_b rfl (by omega) (fun c2 => ?_) (fun c2 => ?_)
    · have hz := (np_num0 (N := N) hp1 (fun c => np_rg (T := T) hp (nn_dg p v) J S c)).mp c2
      have hS1 : 1 ≤ S := by
        refine Nat.pos_of_ne_zero (fun h => ?_)
        subst h
        exact np_e hp (by omega) hz
      refine wp_c rfl (by omega) [] (c_max (by unfold pj_rg; omega) (by unfold pj_rg; omega) ?_) rfl rfl rfl rfl
      refine wp_g rfl (by omega) ?_
      refine ih (J + 1) (max K S) _ _ _ _ (by omega) (by omega) (by omega) ⟨by omega, by omega, fun q hq => ?_, ?_⟩
      · by_cases h : q = J
        · subst h
          have := np_z_mono hp1 hz (max K S - S)
          rw [show S + (max K S - S) = max K S by omega] at this
          exact this
        · have := np_z_mono hp1 (i3 q (by omega)) (max K S - K)
          rw [show K + (max K S - K) = max K S by omega] at this
          exact this
      · by_cases h : S ≤ K
        · rw [show max K S = K by omega]
          rcases i4 with h4 | ⟨q, hq, hq2⟩
          · exact Or.inl h4
          · exact Or.inr ⟨q, by omega, hq2⟩
        · rw [show max K S = S by omega]
          exact Or.inr ⟨J, by omega, hno (S - 1) (by omega)⟩
    · refine wp_r rfl (by omega) ?_
      have hnz : ¬ np_z N (np_i p N T (nn_dg p v) (ln_e J) S) := fun hz => c2 ((np_num0 (N := N) hp1 (fun c => np_rg (T := T) hp (nn_dg p v) J S c)).mpr hz)
      rcases hor with h | h
      · subst h
        exact h0 ⟨J, by omega, hnz⟩
      · exact absurd h hnz
/-- nilpotency(v) -/
theorem c_nil (ht : tt_ok p N T) (hb : tt_br p N T br) (hn : n = N) {v : Int} (hv : 0 ≤ v ∧ v ≤ 2147483647)
    (h1 : ∀ k : Nat, np_is p N T (nn_dg p v) N k → Q (some (.inl (k : Int))) (w_M p n br))
    (h0 : (∃ j, j < N ∧ ¬ np_z N (np_i p N T (nn_dg p v) (ln_e j) N)) → Q (some (.inl (-9))) (w_M p n br)) :
    pj_ci X m_Maps_nilpotency [.inr 0, .inl v] (w_M p n br) Q := by
  refine wp_g rfl (by omega) ?_
  have := ht.2.1
  exact c_nil_out ht hb hn hv h1 h0 N 0 1 _ _ _ _ (by omega) (by omega) (by omega) ⟨by omega, by omega, fun j hj => absurd hj (by omega), Or.inl rfl⟩
end NIL
