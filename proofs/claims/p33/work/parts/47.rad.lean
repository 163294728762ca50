/-! Maps.radicalSize -/
section RAD
variable {X : pj_X} {Q : pj_Q} {p n : Int} {N : Nat} {T : Nat → Nat → Nat → Int} {br : Nat → Int}
/-- a row of the Killing form -/
def kl_r (p : Int) (N : Nat) (T : Nat → Nat → Nat → Int) (i j : Nat) : Int := tr_v p N T (ln_e i) (ln_e j)
abbrev w_K (p n : Int) (br : Nat → Int) (s1 s2 s3 : pj_V) (f : Nat → Int) : List pj_C := [c_Mp (.inr 1) (.inr 3) v_u, c_T (.inl p) (.inl n) (.inr 2), c_A 25 br, c_S (.inl 5) (.inr 4) s1 s2 s3, c_A 30 f]
theorem kl_rg (hp : 0 < p) (i j : Nat) : 0 ≤ kl_r p N T i j ∧ kl_r p N T i j < p := ⟨Int.emod_nonneg _ (by omega), Int.emod_lt_of_pos _ hp⟩
def kl_in (p : Int) (N : Nat) (T : Nat → Nat → Nat → Int) (I J : Nat) (f0 f : Nat → Int) : Prop := (∀ r c, r < 5 → c < 5 → f (r * 5 + c) = f0 (r * 5 + c)) ∧ ∀ c, c < N → f (5 * 5 + c) = if c < J then kl_r p N T I c else 0
theorem c_rad_in (ht : tt_ok p N T) (hb : tt_br p N T br) (hn : n = N) {sz : Int} {f0 : Nat → Int} {I : Nat} {i : Int} (hI : I < N) (hi : i = I)
    (hQ : ∀ (f : Nat → Int) (j : pj_V), kl_in p N T I N f0 f → pj_WP X m_Maps_radicalSize 81 [.inr 0, .inl i, j] [] (w_K p n br (.inl p) (.inl n) (.inl sz) f) Q) :
    ∀ (m J : Nat) (j : Int) (f : Nat → Int), J + m = N → j = J → kl_in p N T I J f0 f → pj_WP X m_Maps_radicalSize 36 [.inr 0, .inl i, .inl j] [] (w_K p n br (.inl p) (.inl n) (.inl sz) f) Q := by
  obtain ⟨hp, h1N, hN, hT, -⟩ := id ht
  obtain ⟨hp1, hp2, hp3⟩ := nn_p_pos hp
  have pw : ∀ A : Nat, A < N → 0 ≤ p ^ A ∧ p ^ A ≤ 2147483647 := fun A hA => by
    have := nn_pw1 hp1 A
    have := nn_pwle hp A (by omega)
    omega
  intro m
  induction m with
  | zero =>
    intro J j f hJ hj hin
    refine wp_b rfl (by omega) (fun c => ?_) (fun c => absurd c (by omega))
    rw [show J = N by omega] at hin
    exact hQ _ _ hin
  | succ m ih =>
    intro J j f hJ hj hin
    have hk := kl_rg (N := N) (T := T) hp1 I J
    have h0 : f (5 * 5 + J) = 0 := by rw [hin.2 J (by omega), if_neg (by omega)]
    have e : ∀ A : Nat, nn_dg p (p ^ A) = ln_e A := fun A => funext fun k => nn_dg_pw hp A k
    refine wp_b rfl (by omega) (fun c => absurd c (by omega)) (fun c => ?_)
    refine wp_c rfl (by omega) [1] (c_power (E := I) (by omega) hi ?_) rfl rfl rfl rfl
    refine wp_c rfl (by omega) [1] (c_power (E := J) (by omega) hj ?_) rfl rfl rfl rfl
    refine wp_h (w_K p n br (.inl p) (.inl n) (.inl sz) f) rfl ?_
    refine wp_c rfl (by omega) [0, 1, 2] (c_trace ht hb hn (pw I hI) (pw J (by omega)) ?_) rfl rfl rfl rfl
    rw [e I, e J]
    refine wp_h (w_K p n br (.inl p) (.inl n) (.inl sz) f) rfl ?_
    refine wp_c rfl (by omega) [3, 4] (c_addIncoming (C := 5) (c0 := J) (W := N) (by omega) hp hn hN hj (by omega) (by rw [h0]; omega) (show -1000000 ≤ kl_r p N T I J ∧ kl_r p N T I J ≤ 1000000 by omega) ?_) rfl rfl rfl rfl
    refine wp_g rfl (by omega) ?_
    refine ih (J + 1) _ _ (by omega) (by omega) ⟨fun r c hr hc => ?_, fun c hc => ?_⟩
    · show pj_up f (5 * 5 + J) _ (r * 5 + c) = _
      rw [← hin.1 r c hr hc]
      exact if_neg (by omega)
    · show (if 5 * 5 + c = 5 * 5 + J then (f (5 * 5 + J) + kl_r p N T I J) % p else f (5 * 5 + c)) = _
      by_cases h : c = J
      · subst h
        rw [if_pos rfl, if_pos (by omega), h0, Int.zero_add, Int.emod_eq_of_lt hk.1 hk.2]
      · rw [if_neg (by omega), hin.2 c hc]
        by_cases h2 : c < J
        · rw [if_pos h2, if_pos (by omega)]
        · rw [if_neg h2, if_neg (by omega)]
theorem ln_ct_same {R R' : Nat → ln_V} : ∀ r : Nat, (∀ q, q < r → R' q q = R q q) → ln_ct R' r = ln_ct R r
  | 0, _ => rfl
  | r + 1, h => by
    show ln_ct R' r + _ = ln_ct R r + _
    rw [ln_ct_same r (fun q hq => h q (by omega)), h r (by omega)]
theorem c_rad_out (ht : tt_ok p N T) (hb : tt_br p N T br) (hn : n = N)
    (hQ : ∀ (f : Nat → Int) (sz : Int), sb_ok 5 N p f sz → (∀ K, ln_sub p N K → (ln_g N (sb_R 5 f) K ↔ ∀ i, i < N → K (kl_r p N T i))) → Q (some (.inl (n - sz))) (w_K p n br (.inl p) (.inl n) (.inl sz) f)) :
    ∀ (m I : Nat) (i : Int) (d : pj_V) (f : Nat → Int) (sz : Int), I + m = N → i = I → sb_ok 5 N p f sz → (∀ K, ln_sub p N K → (ln_g N (sb_R 5 f) K ↔ ∀ i, i < I → K (kl_r p N T i))) →
      pj_WP X m_Maps_radicalSize 23 [.inr 0, .inl i, d] [] (w_K p n br (.inl p) (.inl n) (.inl sz) f) Q := by
  obtain ⟨hp, h1N, hN, hT, -⟩ := id ht
  obtain ⟨hp1, hp2, hp3⟩ := nn_p_pos hp
  intro m
  induction m with
  | zero =>
    intro I i d f sz hI hi hok hg
    have hsz : 0 ≤ sz ∧ sz ≤ 5 := by
      have := hok.2.2
      have h2 := ln_ct_w (sb_R 5 f) N
      omega
    refine wp_b rfl (by omega) (fun c => ?_) (fun c => absurd c (by omega))
    refine wp_r rfl (by omega) ?_
    rw [show I = N by omega] at hg
    exact hQ f sz hok hg
  | succ m ih =>
    intro I i d f sz hI hi hok hg
    refine wp_b rfl (by omega) (fun c => absurd c (by omega)) (fun c => ?_)
    refine wp_g rfl (by omega) ?_
    refine c_rad_in ht hb hn (f0 := f) (by omega) hi (fun f1 j hin => ?_) N 0 _ _ (by omega) (by omega) ⟨fun _ _ _ _ => rfl, fun c hc => by rw [if_neg (by omega)]; exact hok.2.1 c hc⟩
    have hs : ∀ r c, r < N → c < N → sb_R 5 f1 r c = sb_R 5 f r c := fun r c hr hc => hin.1 r c (by omega) (by omega)
    have hvv : ∀ c, c < N → sb_v 5 f1 c = kl_r p N T I c := fun c hc => by
      show f1 (5 * 5 + c) = _
      rw [hin.2 c hc, if_pos hc]
    refine wp_c rfl (by omega) [3, 4] (c_take (C := 5) (W := N) (by omega) hp hn hN (ln_R_same hok.1 hs) (fun c hc => by rw [hvv c hc]; exact kl_rg hp1 I c) (fun f2 b hj hz => ?_)) rfl rfl rfl rfl
    refine wp_g rfl (by omega) ?_
    refine ih (I + 1) _ _ _ _ (by omega) (by omega) ⟨hj.1, hz, ?_⟩ (fun K hK => ?_)
    · rw [hj.2.2.1, hok.2.2, ln_ct_same N (fun q hq => hs q q hq hq)]
      cases b <;> simp
    · rw [hj.2.1 K hK, ln_g_same hK hs, hg K hK]
      constructor
      · intro h q hq
        by_cases h2 : q = I
        · rw [h2]
          exact hK.2.2.2 _ _ (fun c hc => by rw [hvv c hc]; exact nn_eq_rfl p _) h.2
        · exact h.1 q (by omega)
      · exact fun h => ⟨fun q hq => h q (by omega), hK.2.2.2 _ _ (fun c hc => by rw [hvv c hc]; exact nn_eq_rfl p _) (h I (by omega))⟩
/-- radicalSize() -/
theorem c_radical (ht : tt_ok p N T) (hb : tt_br p N T br) (hn : n = N) {f0 : Nat → Int}
    (hQ : ∀ (f : Nat → Int) (sz : Int), sb_ok 5 N p f sz → (∀ K, ln_sub p N K → (ln_g N (sb_R 5 f) K ↔ ∀ i, i < N → K (kl_r p N T i))) → Q (some (.inl (n - sz))) (w_K p n br (.inl p) (.inl n) (.inl sz) f)) :
    pj_ci X m_Maps_radicalSize [.inr 0] (w_K p n br v_u v_u v_u f0) Q := by
  obtain ⟨hp, h1N, hN, hT, -⟩ := id ht
  obtain ⟨hz1, hz2⟩ := sb_zero (C := 5) (W := N) (f := f0) (nn_p_pos hp).1 hN
  refine wp_c rfl (by omega) [3, 4] (c_Sbegin (C := 5) (W := N) (by omega) hn hN ?_) rfl rfl rfl rfl
  refine wp_g rfl (by omega) ?_
  refine c_rad_out ht hb hn hQ N 0 _ _ _ _ (by omega) (by omega) hz1 (fun K hK => ⟨fun _ i hi => absurd hi (by omega), fun _ r hr => hK.2.2.2 _ _ (fun c hc => by rw [hz2 r c hr hc]; exact nn_eq_rfl p 0) hK.1⟩)
end RAD
