/-! Maps: trace, nilpotency -/
section MAPS
variable {X : pj_X} {Q : pj_Q} {p n : Int} {N : Nat} {T : Nat → Nat → Nat → Int} {br : Nat → Int}
abbrev c_Mp (t a b : pj_V) : pj_C := .inr (1, [t, a, b])
abbrev w_M (p n : Int) (br : Nat → Int) : List pj_C := [c_Mp (.inr 1) v_u v_u, c_T (.inl p) (.inl n) (.inr 2), c_A 25 br]
/-- a diagonal entry of the product of two adjoint matrices -/
def tr_t (p : Int) (N : Nat) (T : Nat → Nat → Nat → Int) (U V : ln_V) (j : Nat) : Int := tt_bk p N T U (tt_bk p N T V (ln_e j)) j
def tr_v (p : Int) (N : Nat) (T : Nat → Nat → Nat → Int) (U V : ln_V) : Int := nn_sm N (tr_t p N T U V) % p
theorem tt_bk_red (hp : 0 < p) {u u' v v' : ln_V} (hu : ln_eq p N u u') (hv : ln_eq p N v v') (k : Nat) : tt_bk p N T u v k = tt_bk p N T u' v' k := nn_eq_red (tt_bk_congr hu hv k) (tt_bk_rg hp _ _ _) (tt_bk_rg hp _ _ _)
theorem ln_eq_nm (hp : 0 < p) {f : Nat → Int} (hf : ∀ c, c < N → 0 ≤ f c ∧ f c < p) : ln_eq p N (nn_dg p (nn_nm p N f)) f := fun c hc => by
  rw [nn_dg_nm hp N hf c hc]
  exact nn_eq_rfl p _
theorem ln_eq_pw (hp : nn_p p) (j : Nat) : ln_eq p N (nn_dg p (p ^ j)) (ln_e j) := fun c _ => by
  rw [nn_dg_pw hp]
  exact nn_eq_rfl p _
theorem tr_rg (hp : 0 < p) (hp7 : p ≤ 7) (U V : ln_V) : ∀ J : Nat, 0 ≤ nn_sm J (tr_t p N T U V) ∧ nn_sm J (tr_t p N T U V) ≤ 7 * J
  | 0 => ⟨Int.le_refl 0, Int.le_refl 0⟩
  | J + 1 => by
    have h := tr_rg hp hp7 U V J
    have h2 := tt_bk_rg (N := N) (T := T) hp U (tt_bk p N T V (ln_e J)) J
    show 0 ≤ nn_sm J (tr_t p N T U V) + tt_bk p N T U (tt_bk p N T V (ln_e J)) J ∧ nn_sm J (tr_t p N T U V) + tt_bk p N T U (tt_bk p N T V (ln_e J)) J ≤ _
    omega
theorem c_trace_loop (ht : tt_ok p N T) (hb : tt_br p N T br) (hn : n = N) {u v : Int} (hu : 0 ≤ u ∧ u ≤ 2147483647) (hv : 0 ≤ v ∧ v ≤ 2147483647) (hQ : Q (some (.inl (tr_v p N T (nn_dg p u) (nn_dg p v)))) (w_M p n br)) :
    ∀ (m J : Nat) (s j : Int) (d : pj_V), J + m = N → j = J → s = nn_sm J (tr_t p N T (nn_dg p u) (nn_dg p v)) → pj_WP X m_Maps_trace 5 [.inr 0, .inl u, .inl v, .inl s, .inl j, d] [] (w_M p n br) Q := by
  obtain ⟨hp, h1N, hN, hT, -⟩ := id ht
  obtain ⟨hp1, hp2, hp3⟩ := nn_p_pos hp
  intro m
  induction m with
  | zero =>
    intro J s j d hJ hj hs
    have hr := tr_rg (N := N) (T := T) hp1 hp3 (nn_dg p u) (nn_dg p v) J
    rw [← hs] at hr
    refine wp_b rfl (by omega) (fun c => ?_) (fun c => absurd c (by omega))
    refine wp_c rfl (by omega) [1] (c_reduce hp (by unfold pj_rg; omega) ?_) rfl rfl rfl rfl
    refine wp_r rfl (by omega) ?_
    rw [hs, show J = N by omega]
    exact hQ
  | succ m ih =>
    intro J s j d hJ hj hs
    have hr := tr_rg (N := N) (T := T) hp1 hp3 (nn_dg p u) (nn_dg p v) J
    rw [← hs] at hr
    have pw : 0 ≤ p ^ J ∧ p ^ J ≤ 2147483647 := by
      have := nn_pw1 hp1 J
      have := nn_pwle hp J (by omega)
      omega
    have rb : ∀ U V : ln_V, 0 ≤ nn_nm p N (tt_bk p N T U V) ∧ nn_nm p N (tt_bk p N T U V) ≤ 2147483647 := fun U V => jc_rg hp hN (fun c _ => tt_bk_rg hp1 _ _ _)
    refine wp_b rfl (by omega) (fun c => absurd c (by omega)) (fun c => ?_)
    refine wp_c rfl (by omega) [1] (c_power (E := J) (by omega) hj ?_) rfl rfl rfl rfl
    refine wp_c rfl (by omega) [1, 2] (c_product ht hb hn hv pw ?_) rfl rfl rfl rfl
    refine wp_h (w_M p n br) rfl ?_
    refine wp_c rfl (by omega) [1, 2] (c_product ht hb hn hu (rb _ _) ?_) rfl rfl rfl rfl
    refine wp_c rfl (by omega) [1] (c_coord (K := J) hp (rb _ _) (by omega) hj ?_) rfl rfl rfl rfl
    have e : nn_dg p (nn_nm p N (tt_bk p N T (nn_dg p u) (nn_dg p (nn_nm p N (tt_bk p N T (nn_dg p v) (nn_dg p (p ^ J))))))) J = tr_t p N T (nn_dg p u) (nn_dg p v) J := by
      rw [nn_dg_nm hp1 N (fun c _ => tt_bk_rg hp1 _ _ _) J (by omega)]
      refine tt_bk_red hp1 (fun c _ => nn_eq_rfl p _) (fun c hc => ?_) J
      rw [nn_dg_nm hp1 N (fun c _ => tt_bk_rg hp1 _ _ _) c hc]
      exact tt_bk_congr (fun c _ => nn_eq_rfl p _) (ln_eq_pw hp J) c
    have hr2 := tr_rg (N := N) (T := T) hp1 hp3 (nn_dg p u) (nn_dg p v) (J + 1)
    have es : nn_sm (J + 1) (tr_t p N T (nn_dg p u) (nn_dg p v)) = s + tr_t p N T (nn_dg p u) (nn_dg p v) J := by
      rw [hs]
      rfl
    rw [es] at hr2
    rw [e]
    refine wp_h (w_M p n br) rfl ?_
    refine wp_g rfl (by omega) ?_
    exact ih (J + 1) _ _ _ (by omega) (by omega) es.symm
/-- trace(u, v) -/
theorem c_trace (ht : tt_ok p N T) (hb : tt_br p N T br) (hn : n = N) {u v : Int} (hu : 0 ≤ u ∧ u ≤ 2147483647) (hv : 0 ≤ v ∧ v ≤ 2147483647) (hQ : Q (some (.inl (tr_v p N T (nn_dg p u) (nn_dg p v)))) (w_M p n br)) :
    pj_ci X m_Maps_trace [.inr 0, .inl u, .inl v] (w_M p n br) Q := by
  refine wp_g rfl (by omega) ?_
  exact c_trace_loop ht hb hn hu hv hQ N 0 _ _ _ (by omega) (by omega) rfl
end MAPS
