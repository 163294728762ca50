/-! Maps.derivationCount -/
section DER
variable {X : pj_X} {Q : pj_Q} {p n : Int} {N : Nat} {T : Nat → Nat → Nat → Int} {br : Nat → Int}
theorem dv_ix {R A N : Nat} (hR : R < N) (hA : A < N) : R * N + A < N * N := by
  have h1 : (R + 1) * N ≤ N * N := Nat.mul_le_mul_right N (by omega)
  rw [Nat.add_mul] at h1
  omega
theorem dv_25 {N : Nat} (hN : N ≤ 5) : N * N ≤ 25 := Nat.mul_le_mul hN hN
/-- unknown(row, column) -/
theorem c_unknown {r a : Int} {R A : Nat} (hN : N ≤ 5) (hn : n = N) (hr : r = R) (ha : a = A) (hR : R < N) (hA : A < N) (hQ : Q (some (.inl ((R * N + A : Nat) : Int))) [c_Mp (.inr 1) v_u v_u, c_T v_u (.inl n) v_u]) :
    pj_ci X m_Maps_unknown [.inr 0, .inl r, .inl a] [c_Mp (.inr 1) v_u v_u, c_T v_u (.inl n) v_u] Q := by
  have h1 := dv_ix hR hA
  have h2 := dv_25 hN
  have e : r * n = ((R * N : Nat) : Int) := by rw [hr, hn]; simp
  refine wp_r rfl (by omega) ?_
  rw [show ((R * N + A : Nat) : Int) = r * n + a by omega] at hQ
  exact hQ
/-- the equation of a coordinate of D([e_i, e_j]), its first A columns -/
def dv_p (N : Nat) (T : Nat → Nat → Nat → Int) (i j r A c : Nat) : Int := nn_sm A (fun a => ((if c = r * N + a then T i j a else 0) + (if c = a * N + i then -(T a j r) else 0)) + (if c = a * N + j then -(T i a r) else 0))
def dv_e (p : Int) (N : Nat) (T : Nat → Nat → Nat → Int) (i j r c : Nat) : Int := dv_p N T i j r N c % p
abbrev w_Dv (p n : Int) (br : Nat → Int) (s1 s2 s3 : pj_V) (f : Nat → Int) : List pj_C := [c_Mp (.inr 1) v_u (.inr 3), c_T (.inl p) (.inl n) (.inr 2), c_A 25 br, c_S (.inl 25) (.inr 4) s1 s2 s3, c_A 650 f]
def dv_in (p : Int) (N : Nat) (g : Nat → Int) (f0 f : Nat → Int) : Prop := (∀ r c, r < 25 → c < 25 → f (r * 25 + c) = f0 (r * 25 + c)) ∧ ∀ c, c < N * N → f (25 * 25 + c) = g c % p
theorem dv_in_up (hN : N ≤ 5) {g f0 f : Nat → Int} {c0 : Nat} {x : Int} (h : dv_in p N g f0 f) (hc : c0 < N * N) : dv_in p N (fun c => g c + if c = c0 then x else 0) f0 (pj_up f (25 * 25 + c0) ((f (25 * 25 + c0) + x) % p)) := by
  have h2 := dv_25 hN
  refine ⟨fun r c hr hc2 => ?_, fun c hc2 => ?_⟩
  · rw [← h.1 r c hr hc2]
    exact if_neg (by omega)
  · show (if 25 * 25 + c = 25 * 25 + c0 then (f (25 * 25 + c0) + x) % p else f (25 * 25 + c)) = (g c + if c = c0 then x else 0) % p
    by_cases e : c = c0
    · subst e
      rw [if_pos rfl, if_pos rfl, h.2 c hc2, Int.emod_add_emod]
    · rw [if_neg (by omega), if_neg e, h.2 c hc2, Int.add_zero]
set_option maxHeartbeats 1000000 in
theorem c_rule_loop (ht : tt_ok p N T) (hb : tt_br p N T br) (hn : n = N) {sz : Int} {f0 : Nat → Int} {I J R : Nat} {i j r : Int} (hI : I < N) (hJ : J < N) (hR : R < N) (hi : i = I) (hj : j = J) (hr : r = R)
    (hQ : ∀ (f : Nat → Int) (a : pj_V), dv_in p N (dv_p N T I J R N) f0 f → pj_WP X m_Maps_addDerivationRule 119 [.inr 0, .inl i, .inl j, .inl r, a] [] (w_Dv p n br (.inl p) (.inl ((N * N : Nat) : Int)) (.inl sz) f) Q) :
    ∀ (m A : Nat) (a : Int) (f : Nat → Int), A + m = N → a = A → dv_in p N (dv_p N T I J R A) f0 f → pj_WP X m_Maps_addDerivationRule 3 [.inr 0, .inl i, .inl j, .inl r, .inl a] [] (w_Dv p n br (.inl p) (.inl ((N * N : Nat) : Int)) (.inl sz) f) Q := by
  obtain ⟨hp, h1N, hN, hT, -⟩ := id ht
  obtain ⟨hp1, hp2, hp3⟩ := nn_p_pos hp
  have h25 := dv_25 hN
  intro m
  induction m with
  | zero =>
    intro A a f hA ha hin
    refine wp_b rfl (by omega) (fun c => ?_) (fun c => absurd c (by omega))
    rw [show A = N by omega] at hin
    exact hQ _ _ hin
  | succ m ih =>
    intro A a f hA ha hin
    have rg : ∀ (g f : Nat → Int) (c : Nat), dv_in p N g f0 f → c < N * N → 0 ≤ f (25 * 25 + c) ∧ f (25 * 25 + c) < p := fun g f c h hc => by
      rw [h.2 c hc]
      exact ⟨Int.emod_nonneg _ (by omega), Int.emod_lt_of_pos _ hp1⟩
    have x1 := dv_ix hR (show A < N by omega)
    have x2 := dv_ix (show A < N by omega) hI
    have x3 := dv_ix (show A < N by omega) hJ
    have t1 := hT I J A
    have t2 := hT A J R
    have t3 := hT I A R
    have b1 := tt_brn ht hb (i := I) (j := J) (by omega) (by omega)
    have b2 := tt_brn ht hb (i := A) (j := J) (by omega) (by omega)
    have b3 := tt_brn ht hb (i := I) (j := A) (by omega) (by omega)
    refine wp_b rfl (by omega) (fun c => absurd c (by omega)) (fun c => ?_)
    refine wp_c rfl (by omega) [0, 1] (c_unknown (R := R) (A := A) hN hn hr ha hR (by omega) ?_) rfl rfl rfl rfl
    refine wp_c rfl (by omega) [1, 2] (c_entry (I := I) (J := J) hi hj (by omega) (by omega) ?_) rfl rfl rfl rfl
    refine wp_h (w_Dv p n br (.inl p) (.inl ((N * N : Nat) : Int)) (.inl sz) f) rfl ?_
    refine wp_c rfl (by omega) [1] (c_coord (K := A) hp b1.1 (by omega) ha ?_) rfl rfl rfl rfl
    rw [b1.2 A (by omega)]
    refine wp_c rfl (by omega) [3, 4] (c_addIncoming (C := 25) (W := N * N) (c0 := R * N + A) (by omega) hp rfl h25 rfl x1 (rg _ _ _ hin x1) (by omega) ?_) rfl rfl rfl rfl
    have hin1 := dv_in_up hN (x := T I J A) hin x1
    revert hin1
    generalize pj_up f (25 * 25 + (R * N + A)) ((f (25 * 25 + (R * N + A)) + T I J A) % p) = f1
    intro hin1
    refine wp_h (w_Dv p n br (.inl p) (.inl ((N * N : Nat) : Int)) (.inl sz) f1) rfl ?_
    refine wp_c rfl (by omega) [0, 1] (c_unknown (R := A) (A := I) hN hn ha hi (by omega) hI ?_) rfl rfl rfl rfl
    refine wp_c rfl (by omega) [1, 2] (c_entry (I := A) (J := J) ha hj (by omega) (by omega) ?_) rfl rfl rfl rfl
    refine wp_h (w_Dv p n br (.inl p) (.inl ((N * N : Nat) : Int)) (.inl sz) f1) rfl ?_
    refine wp_c rfl (by omega) [1] (c_coord (K := R) hp b2.1 (by omega) hr ?_) rfl rfl rfl rfl
    rw [b2.2 R hR]
    refine wp_c rfl (by omega) [3, 4] (c_addIncoming (C := 25) (W := N * N) (c0 := A * N + I) (x := -(T A J R)) (by omega) hp rfl h25 rfl x2 (rg _ _ _ hin1 x2) (by omega) ?_) rfl rfl rfl rfl
    have hin2 := dv_in_up hN (x := -(T A J R)) hin1 x2
    revert hin2
    generalize pj_up f1 (25 * 25 + (A * N + I)) ((f1 (25 * 25 + (A * N + I)) + -(T A J R)) % p) = f2
    intro hin2
    refine wp_h (w_Dv p n br (.inl p) (.inl ((N * N : Nat) : Int)) (.inl sz) f2) rfl ?_
    refine wp_c rfl (by omega) [0, 1] (c_unknown (R := A) (A := J) hN hn ha hj (by omega) hJ ?_) rfl rfl rfl rfl
    refine wp_c rfl (by omega) [1, 2] (c_entry (I := I) (J := A) hi ha (by omega) (by omega) ?_) rfl rfl rfl rfl
    refine wp_h (w_Dv p n br (.inl p) (.inl ((N * N : Nat) : Int)) (.inl sz) f2) rfl ?_
    refine wp_c rfl (by omega) [1] (c_coord (K := R) hp b3.1 (by omega) hr ?_) rfl rfl rfl rfl
    rw [b3.2 R hR]
    refine wp_c rfl (by omega) [3, 4] (c_addIncoming (C := 25) (W := N * N) (c0 := A * N + J) (x := -(T I A R)) (by omega) hp rfl h25 rfl x3 (rg _ _ _ hin2 x3) (by omega) ?_) rfl rfl rfl rfl
    have hin3 := dv_in_up hN (x := -(T I A R)) hin2 x3
    revert hin3
    generalize pj_up f2 (25 * 25 + (A * N + J)) ((f2 (25 * 25 + (A * N + J)) + -(T I A R)) % p) = f3
    intro hin3
    refine wp_h (w_Dv p n br (.inl p) (.inl ((N * N : Nat) : Int)) (.inl sz) f3) rfl ?_
    refine wp_g rfl (by omega) ?_
    refine ih (A + 1) _ _ (by omega) (by omega) ⟨hin3.1, fun c hc => ?_⟩
    rw [hin3.2 c hc]
    refine congrArg (· % p) ?_
    exact (show ∀ a b c d : Int, a + b + c + d = a + (b + c + d) from fun a b c d => by omega) _ _ _ _
/-- addDerivationRule(i, j, row) -/
theorem c_rule (ht : tt_ok p N T) (hb : tt_br p N T br) (hn : n = N) {sz : Int} {f0 : Nat → Int} {I J R : Nat} {i j r : Int} (hI : I < N) (hJ : J < N) (hR : R < N) (hi : i = I) (hj : j = J) (hr : r = R) (hok : sb_ok 25 (N * N) p f0 sz)
    (hQ : ∀ (f : Nat → Int) (sz' : Int), sb_ok 25 (N * N) p f sz' → (∀ K, ln_sub p (N * N) K → (ln_g (N * N) (sb_R 25 f) K ↔ ln_g (N * N) (sb_R 25 f0) K ∧ K (dv_e p N T I J R))) → Q none (w_Dv p n br (.inl p) (.inl ((N * N : Nat) : Int)) (.inl sz') f)) :
    pj_ci X m_Maps_addDerivationRule [.inr 0, .inl i, .inl j, .inl r] (w_Dv p n br (.inl p) (.inl ((N * N : Nat) : Int)) (.inl sz) f0) Q := by
  obtain ⟨hp, h1N, hN, hT, -⟩ := id ht
  obtain ⟨hp1, hp2, hp3⟩ := nn_p_pos hp
  have h25 := dv_25 hN
  refine wp_g rfl (by omega) ?_
  refine c_rule_loop ht hb hn hI hJ hR hi hj hr (f0 := f0) (fun f1 a hin => ?_) N 0 _ _ (by omega) (by omega) ⟨fun _ _ _ _ => rfl, fun c hc => by rw [hok.2.1 c hc]; exact (Int.zero_emod p).symm⟩
  have hs : ∀ r c, r < N * N → c < N * N → sb_R 25 f1 r c = sb_R 25 f0 r c := fun r c hr hc => hin.1 r c (by omega) (by omega)
  have hvv : ∀ c, c < N * N → sb_v 25 f1 c = dv_e p N T I J R c := fun c hc => hin.2 c hc
  have hsz : 0 ≤ sz ∧ sz ≤ 25 := by
    have := hok.2.2
    have h2 := ln_ct_w (sb_R 25 f0) (N * N)
    omega
  refine wp_c rfl (by omega) [3, 4] (c_take (C := 25) (W := N * N) (by omega) hp rfl h25 (ln_R_same hok.1 hs) (fun c hc => by rw [hvv c hc]; exact ⟨Int.emod_nonneg _ (by omega), Int.emod_lt_of_pos _ hp1⟩) (fun f2 b hj2 hz => ?_)) rfl rfl rfl rfl
  refine wp_r rfl (by omega) ?_
  refine hQ f2 _ ⟨hj2.1, hz, ?_⟩ (fun K hK => ?_)
  · rw [hj2.2.2.1, hok.2.2, ln_ct_same (N * N) (fun q hq => hs q q hq hq)]
    cases b <;> simp
  · rw [hj2.2.1 K hK, ln_g_same hK hs]
    exact ⟨fun h => ⟨h.1, hK.2.2.2 _ _ (fun c hc => by rw [hvv c hc]; exact nn_eq_rfl p _) h.2⟩, fun h => ⟨h.1, hK.2.2.2 _ _ (fun c hc => by rw [hvv c hc]; exact nn_eq_rfl p _) h.2⟩⟩
end DER
