/-! LieAlgebra: remember, jacobiFailure -/
section LIE
variable {X : pj_X} {Q : pj_Q} {p n : Int} {N : Nat} {T : Nat → Nat → Nat → Int} {br : Nat → Int}
abbrev c_Li (t s m c x h o : pj_V) (k : pj_V) : pj_C := .inr (7, [t, s, m, c, x, h, o, k])
abbrev w_H (p n : Int) (br : Nat → Int) (k : Int) (f : Nat → Int) : List pj_C := [c_Li (.inr 1) v_u v_u v_u v_u (.inr 3) v_u (.inl k), c_T (.inl p) (.inl n) (.inr 2), c_A 25 br, c_Sh (.inl 6) (.inr 4), c_A 162 f]
/-- remember() -/
theorem c_remember {k : Int} {K : Nat} {f : Nat → Int} (hk : k = K) (hK : K ≤ 6)
    (h5 : K < 6 → Q none (w_H p n br (k + 1) (sh_k f K p n br)))
    (h6 : K = 6 → Q none (w_H p n br (k - 1 + 1) (sh_k (va_cpy f f 27 0 135) 5 p n br))) :
    pj_ci X m_Li_remember [.inr 0] (w_H p n br k f) Q := by
  refine wp_b rfl (by omega) (fun c => ?_) (fun c => ?_)
  · refine wp_c rfl (by omega) [3, 4, 1, 2] (c_keep (P := 6) (K := K) (by omega) hk (by omega) ?_) rfl rfl rfl rfl
    refine wp_r rfl (by omega) ?_
    exact h5 (by omega)
  · refine wp_c rfl (by omega) [3, 4] (c_dropFirst ?_) rfl rfl rfl rfl
    refine wp_h (w_H p n br k (va_cpy f f 27 0 135)) rfl ?_
    refine wp_c rfl (by omega) [3, 4, 1, 2] (c_keep (P := 6) (K := 5) (by omega) (show k - 1 = ((5 : Nat) : Int) by omega) (by omega) ?_) rfl rfl rfl rfl
    refine wp_r rfl (by omega) ?_
    exact h6 (by omega)
abbrev w_J (p n : Int) (br : Nat → Int) : List pj_C := [c_Li (.inr 1) v_u v_u v_u v_u v_u v_u v_u, c_T (.inl p) (.inl n) (.inr 2), c_A 25 br]
/-- the triples that are done have the Jacobi sum 0 -/
def jf_d (p : Int) (N : Nat) (T : Nat → Nat → Nat → Int) (I J K : Nat) : Prop := ∀ i j k, i < j → j < k → k < N → (i < I ∨ (i = I ∧ (j < J ∨ (j = J ∧ k < K)))) → nn_nm p N (jc_s p N T i j k) = 0
theorem jf_eq {I J K I' J' K' : Nat} (h : jf_d p N T I J K) (e : ∀ i j k, i < j → j < k → k < N → (i < I' ∨ (i = I' ∧ (j < J' ∨ (j = J' ∧ k < K')))) → (i < I ∨ (i = I ∧ (j < J ∨ (j = J ∧ k < K))))) : jf_d p N T I' J' K' :=
  fun i j k h1 h2 h3 h4 => h i j k h1 h2 h3 (e i j k h1 h2 h3 h4)
theorem jc_s_rg (hp : nn_p p) (hN : N ≤ 5) (i j k : Nat) : 0 ≤ nn_nm p N (jc_s p N T i j k) ∧ nn_nm p N (jc_s p N T i j k) ≤ 2147483647 := tt_num hp hN
theorem c_jf_in (ht : tt_ok p N T) (hb : tt_br p N T br) (hn : n = N) {I J : Nat} {i j : Int} (hIJ : I < J) (hJ : J < N) (hi : i = I) (hj : j = J)
    (h1 : ∀ K : Nat, J < K → K < N → nn_nm p N (jc_s p N T I J K) ≠ 0 → jf_d p N T I J K → Q (some (.inl (100 * i + 10 * j + K))) (w_J p n br))
    (h0 : ∀ k : pj_V, jf_d p N T I J N → pj_WP X m_Li_jacobiFailure 74 [.inr 0, .inl i, .inl j, k] [] (w_J p n br) Q) :
    ∀ (m K : Nat) (k : Int), K + m = N → k = K → J < K → jf_d p N T I J K → pj_WP X m_Li_jacobiFailure 32 [.inr 0, .inl i, .inl j, .inl k] [] (w_J p n br) Q := by
  obtain ⟨hp, h1N, hN, hT, -⟩ := id ht
  intro m
  induction m with
  | zero =>
    intro K k hK hk hJK hd
    refine wp_b rfl (by omega) (fun c => ?_) (fun c => absurd c (by omega))
    rw [show K = N by omega] at hd
    exact h0 _ hd
  | succ m ih =>
    intro K k hK hk hJK hd
    have hr := jc_s_rg (N := N) (T := T) hp hN I J K
    refine wp_b rfl (by omega) (fun c => absurd c (by omega)) (fun c => ?_)
    refine wp_c rfl (by omega) [1, 2] (c_jacobi ht hb hn (I := I) (J := J) (K := K) hi hj hk (by omega) hJ (by omega) ?_) rfl rfl rfl rfl
    refine wp_b rfl (by omega) (fun c2 => ?_) (fun c2 => ?_)
    · refine wp_g rfl (by omega) ?_
      refine ih (K + 1) _ (by omega) (by omega) (by omega) (fun a b d g1 g2 g3 g4 => ?_)
      by_cases h : a = I ∧ b = J ∧ d = K
      · obtain ⟨rfl, rfl, rfl⟩ := h
        exact c2
      · exact hd a b d g1 g2 g3 (by omega)
    · refine wp_r rfl (by omega) ?_
      rw [hk]
      exact h1 K hJK (by omega) c2 hd
theorem c_jf_mid (ht : tt_ok p N T) (hb : tt_br p N T br) (hn : n = N) {I : Nat} {i : Int} (hI : I < N) (hi : i = I)
    (h1 : ∀ J K : Nat, I < J → J < K → K < N → nn_nm p N (jc_s p N T I J K) ≠ 0 → jf_d p N T I J K → Q (some (.inl (100 * i + 10 * J + K))) (w_J p n br))
    (h0 : ∀ j k : pj_V, jf_d p N T I N 0 → pj_WP X m_Li_jacobiFailure 80 [.inr 0, .inl i, j, k] [] (w_J p n br) Q) :
    ∀ (m J : Nat) (j : Int) (d : pj_V), J + m = N → j = J → I < J → jf_d p N T I J 0 → pj_WP X m_Li_jacobiFailure 17 [.inr 0, .inl i, .inl j, d] [] (w_J p n br) Q := by
  obtain ⟨hp, h1N, hN, hT, -⟩ := id ht
  intro m
  induction m with
  | zero =>
    intro J j d hJ hj hIJ hd
    refine wp_b rfl (by omega) (fun c => ?_) (fun c => absurd c (by omega))
    rw [show J = N by omega] at hd
    exact h0 _ _ hd
  | succ m ih =>
    intro J j d hJ hj hIJ hd
    refine wp_b rfl (by omega) (fun c => absurd c (by omega)) (fun c => ?_)
    refine wp_g rfl (by omega) ?_
    refine c_jf_in ht hb hn hIJ (by omega) hi hj (fun K g1 g2 g3 g4 => ?_) (fun k hd' => ?_) (N - (J + 1)) (J + 1) _ (by omega) (by omega) (by omega) (jf_eq hd (fun a b c _ _ _ h => by omega))
    · rw [hj]
      exact h1 J K hIJ g1 g2 g3 g4
    · refine wp_g rfl (by omega) ?_
      exact ih (J + 1) _ _ (by omega) (by omega) (by omega) (jf_eq hd' (fun a b c _ _ _ h => by omega))
theorem c_jf_out (ht : tt_ok p N T) (hb : tt_br p N T br) (hn : n = N)
    (h1 : ∀ I J K : Nat, I < J → J < K → K < N → nn_nm p N (jc_s p N T I J K) ≠ 0 → jf_d p N T I J K → Q (some (.inl (100 * I + 10 * J + K))) (w_J p n br))
    (h0 : jf_d p N T N 0 0 → Q (some (.inl (-9))) (w_J p n br)) :
    ∀ (m I : Nat) (i : Int) (d1 d2 : pj_V), I + m = N → i = I → jf_d p N T I 0 0 → pj_WP X m_Li_jacobiFailure 2 [.inr 0, .inl i, d1, d2] [] (w_J p n br) Q := by
  obtain ⟨hp, h1N, hN, hT, -⟩ := id ht
  intro m
  induction m with
  | zero =>
    intro I i d1 d2 hI hi hd
    refine wp_b rfl (by omega) (fun c => ?_) (fun c => absurd c (by omega))
    refine wp_r rfl (by omega) ?_
    rw [show I = N by omega] at hd
    exact h0 hd
  | succ m ih =>
    intro I i d1 d2 hI hi hd
    refine wp_b rfl (by omega) (fun c => absurd c (by omega)) (fun c => ?_)
    refine wp_g rfl (by omega) ?_
    refine c_jf_mid ht hb hn (by omega) hi (fun J K g1 g2 g3 g4 g5 => ?_) (fun j k hd' => ?_) (N - (I + 1)) (I + 1) _ _ (by omega) (by omega) (by omega) (jf_eq hd (fun a b c _ _ _ h => by omega))
    · rw [hi]
      exact h1 I J K g1 g2 g3 g4 g5
    · refine wp_g rfl (by omega) ?_
      exact ih (I + 1) _ _ _ (by omega) (by omega) (jf_eq hd' (fun a b c _ _ _ h => by omega))
/-- jacobiFailure() -/
theorem c_jacobiFailure (ht : tt_ok p N T) (hb : tt_br p N T br) (hn : n = N)
    (h1 : ∀ I J K : Nat, I < J → J < K → K < N → nn_nm p N (jc_s p N T I J K) ≠ 0 → jf_d p N T I J K → Q (some (.inl (100 * I + 10 * J + K))) (w_J p n br))
    (h0 : jf_d p N T N 0 0 → Q (some (.inl (-9))) (w_J p n br)) :
    pj_ci X m_Li_jacobiFailure [.inr 0] (w_J p n br) Q := by
  refine wp_g rfl (by omega) ?_
  exact c_jf_out ht hb hn h1 h0 N 0 _ _ _ (by omega) (by omega) (fun i j k _ _ _ h => absurd h (by omega))
end LIE
