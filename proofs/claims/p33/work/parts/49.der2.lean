/-! Maps.derivationCount, its loops -/
section DER2
variable {X : pj_X} {Q : pj_Q} {p n : Int} {N : Nat} {T : Nat → Nat → Nat → Int} {br : Nat → Int}
/-- K holds the equations that are done -/
def dv_g (p : Int) (N : Nat) (T : Nat → Nat → Nat → Int) (I J R : Nat) (K : ln_P) : Prop := ∀ i j r, i < j → j < N → r < N → (i < I ∨ (i = I ∧ (j < J ∨ (j = J ∧ r < R)))) → K (dv_e p N T i j r)
def dv_ok (p : Int) (N : Nat) (T : Nat → Nat → Nat → Int) (I J R : Nat) (f : Nat → Int) (sz : Int) : Prop := sb_ok 25 (N * N) p f sz ∧ ∀ K, ln_sub p (N * N) K → (ln_g (N * N) (sb_R 25 f) K ↔ dv_g p N T I J R K)
theorem dv_ok_eq {I J R I' J' R' : Nat} {f : Nat → Int} {sz : Int} (h : dv_ok p N T I J R f sz) (e : ∀ i j r, i < j → j < N → r < N → ((i < I ∨ (i = I ∧ (j < J ∨ (j = J ∧ r < R)))) ↔ (i < I' ∨ (i = I' ∧ (j < J' ∨ (j = J' ∧ r < R')))))) : dv_ok p N T I' J' R' f sz :=
  ⟨h.1, fun K hK => (h.2 K hK).trans ⟨fun g i j r h1 h2 h3 h4 => g i j r h1 h2 h3 ((e i j r h1 h2 h3).mpr h4), fun g i j r h1 h2 h3 h4 => g i j r h1 h2 h3 ((e i j r h1 h2 h3).mp h4)⟩⟩
theorem c_der_in (ht : tt_ok p N T) (hb : tt_br p N T br) (hn : n = N) {I J : Nat} {i j : Int} (hIJ : I < J) (hJ : J < N) (hi : i = I) (hj : j = J)
    (hQ : ∀ (f : Nat → Int) (sz : Int) (r : pj_V), dv_ok p N T I J N f sz → pj_WP X m_Maps_derivationCount 83 [.inr 0, .inl i, .inl j, r] [] (w_Dv p n br (.inl p) (.inl ((N * N : Nat) : Int)) (.inl sz) f) Q) :
    ∀ (m R : Nat) (r : Int) (f : Nat → Int) (sz : Int), R + m = N → r = R → dv_ok p N T I J R f sz → pj_WP X m_Maps_derivationCount 59 [.inr 0, .inl i, .inl j, .inl r] [] (w_Dv p n br (.inl p) (.inl ((N * N : Nat) : Int)) (.inl sz) f) Q := by
  obtain ⟨hp, h1N, hN, hT, -⟩ := id ht
  intro m
  induction m with
  | zero =>
    intro R r f sz hR hr hok
    refine wp_b rfl (by omega) (fun c => ?_) (fun c => absurd c (by omega))
    rw [show R = N by omega] at hok
    exact hQ _ _ _ hok
  | succ m ih =>
    intro R r f sz hR hr hok
    refine wp_b rfl (by omega) (fun c => absurd c (by omega)) (fun c => ?_)
    refine wp_c rfl (by omega) [0, 1, 2, 3, 4] (c_rule ht hb hn (I := I) (J := J) (R := R) (by omega) hJ (by omega) hi hj hr hok.1 (fun f' sz' hok' hg => ?_)) rfl rfl rfl rfl
    refine wp_g rfl (by omega) ?_
    refine ih (R + 1) _ _ _ (by omega) (by omega) ⟨hok', fun K hK => ?_⟩
    rw [hg K hK, hok.2 K hK]
    constructor
    · intro ⟨g1, g2⟩ i j r h1 h2 h3 h4
      by_cases h : i = I ∧ j = J ∧ r = R
      · obtain ⟨rfl, rfl, rfl⟩ := h
        exact g2
      · exact g1 i j r h1 h2 h3 (by omega)
    · exact fun g => ⟨fun i j r h1 h2 h3 h4 => g i j r h1 h2 h3 (by omega), g I J R hIJ hJ (by omega) (by omega)⟩
theorem c_der_mid (ht : tt_ok p N T) (hb : tt_br p N T br) (hn : n = N) {I : Nat} {i : Int} (hI : I < N) (hi : i = I)
    (hQ : ∀ (f : Nat → Int) (sz : Int) (j r : pj_V), dv_ok p N T I N 0 f sz → pj_WP X m_Maps_derivationCount 89 [.inr 0, .inl i, j, r] [] (w_Dv p n br (.inl p) (.inl ((N * N : Nat) : Int)) (.inl sz) f) Q) :
    ∀ (m J : Nat) (j : Int) (d : pj_V) (f : Nat → Int) (sz : Int), J + m = N → j = J → I < J → dv_ok p N T I J 0 f sz → pj_WP X m_Maps_derivationCount 46 [.inr 0, .inl i, .inl j, d] [] (w_Dv p n br (.inl p) (.inl ((N * N : Nat) : Int)) (.inl sz) f) Q := by
  obtain ⟨hp, h1N, hN, hT, -⟩ := id ht
  intro m
  induction m with
  | zero =>
    intro J j d f sz hJ hj hIJ hok
    refine wp_b rfl (by omega) (fun c => ?_) (fun c => absurd c (by omega))
    rw [show J = N by omega] at hok
    exact hQ _ _ _ _ hok
  | succ m ih =>
    intro J j d f sz hJ hj hIJ hok
    refine wp_b rfl (by omega) (fun c => absurd c (by omega)) (fun c => ?_)
    refine wp_g rfl (by omega) ?_
    refine c_der_in ht hb hn hIJ (by omega) hi hj (fun f' sz' r hok' => ?_) N 0 _ _ _ (by omega) (by omega) hok
    refine wp_g rfl (by omega) ?_
    exact ih (J + 1) _ _ _ _ (by omega) (by omega) (by omega) (dv_ok_eq hok' (fun a b c _ _ _ => by omega))
theorem c_der_out (ht : tt_ok p N T) (hb : tt_br p N T br) (hn : n = N)
    (hQ : ∀ (f : Nat → Int) (sz : Int), dv_ok p N T N 0 0 f sz → Q (some (.inl (n * n - sz))) (w_Dv p n br (.inl p) (.inl ((N * N : Nat) : Int)) (.inl sz) f)) :
    ∀ (m I : Nat) (i : Int) (d1 d2 : pj_V) (f : Nat → Int) (sz : Int), I + m = N → i = I → dv_ok p N T I (I + 1) 0 f sz → pj_WP X m_Maps_derivationCount 31 [.inr 0, .inl i, d1, d2] [] (w_Dv p n br (.inl p) (.inl ((N * N : Nat) : Int)) (.inl sz) f) Q := by
  obtain ⟨hp, h1N, hN, hT, -⟩ := id ht
  have h25 := dv_25 hN
  have e : n * n = ((N * N : Nat) : Int) := by rw [hn]; simp
  intro m
  induction m with
  | zero =>
    intro I i d1 d2 f sz hI hi hok
    have hsz : 0 ≤ sz ∧ sz ≤ 25 := by
      have := hok.1.2.2
      have h2 := ln_ct_w (sb_R 25 f) (N * N)
      omega
    refine wp_b rfl (by omega) (fun c => ?_) (fun c => absurd c (by omega))
    refine wp_r rfl (by omega) ?_
    exact hQ f sz (dv_ok_eq hok (fun a b c _ _ _ => by omega))
  | succ m ih =>
    intro I i d1 d2 f sz hI hi hok
    refine wp_b rfl (by omega) (fun c => absurd c (by omega)) (fun c => ?_)
    refine wp_g rfl (by omega) ?_
    refine c_der_mid ht hb hn (by omega) hi (fun f' sz' j r hok' => ?_) (N - (I + 1)) (I + 1) _ _ _ _ (by omega) (by omega) (by omega) hok
    refine wp_g rfl (by omega) ?_
    exact ih (I + 1) _ _ _ _ _ (by omega) (by omega) (dv_ok_eq hok' (fun a b c _ _ _ => by omega))
/-- derivationCount() -/
theorem c_derivation (ht : tt_ok p N T) (hb : tt_br p N T br) (hn : n = N) {f0 : Nat → Int}
    (hQ : ∀ (f : Nat → Int) (sz : Int), dv_ok p N T N 0 0 f sz → Q (some (.inl (n * n - sz))) (w_Dv p n br (.inl p) (.inl ((N * N : Nat) : Int)) (.inl sz) f)) :
    pj_ci X m_Maps_derivationCount [.inr 0] (w_Dv p n br v_u v_u v_u f0) Q := by
  obtain ⟨hp, h1N, hN, hT, -⟩ := id ht
  have h25 := dv_25 hN
  have e : n * n = ((N * N : Nat) : Int) := by rw [hn]; simp
  obtain ⟨hz1, hz2⟩ := sb_zero (C := 25) (W := N * N) (f := f0) (nn_p_pos hp).1 h25
  refine wp_c rfl (by omega) [3, 4] (c_Sbegin (C := 25) (W := N * N) (w := n * n) (by omega) e h25 ?_) rfl rfl rfl rfl
  refine wp_h (w_Dv p n br (.inl p) (.inl (n * n)) (.inl 0) (fun k => if k < (25 + 1) * 25 then 0 else f0 k)) rfl ?_
  rw [e]
  refine wp_g rfl (by omega) ?_
  refine c_der_out ht hb hn hQ N 0 _ _ _ _ _ (by omega) (by omega) ⟨hz1, fun K hK => ⟨fun _ i j r h1 h2 h3 h4 => absurd h4 (by omega), fun _ r hr => hK.2.2.2 _ _ (fun c hc => by rw [hz2 r c hr hc]; exact nn_eq_rfl p 0) hK.1⟩⟩
end DER2
