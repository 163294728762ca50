/-! THE MODEL: makeWhole, products, multiply, makeLevel, vectorOf -/
abbrev o_m : pj_C := .inr (8, [v_u, .inr 1, v_u, v_u, v_u, v_u, v_u, v_u, v_u, v_u, .inr 3, v_u, v_u, v_u, v_u, .inr 6, .inr 5, .inr 2, .inr 4, v_u, v_u, v_u, v_u, v_u, v_u, v_u, v_u, v_u])
abbrev o_v : pj_C := .inr (8, [v_u, .inr 1, v_u, v_u, v_u, v_u, v_u, v_u, v_u, v_u, v_u, v_u, v_u, v_u, v_u, .inr 2, v_u, v_u, v_u, v_u, v_u, v_u, v_u, v_u, v_u, v_u, v_u, v_u])
abbrev w_m (s h r wh ot sp : Nat → Int) : List pj_C := [o_m, c_A 127 s, c_A 5 h, c_A 5 r, c_A 26 wh, c_A 26 ot, c_A 26 sp]
section LEV
variable {X : pj_X} {Q : pj_Q} {p : Int} {N : Nat} {T : Nat → Nat → Nat → Int} {s : Nat → Int}
theorem ln_ct_e : ∀ n : Nat, ln_ct ln_e n = n
  | 0 => rfl
  | n + 1 => by
    show ln_ct ln_e n + (if ln_e n n = 0 then 0 else 1) = n + 1
    rw [ln_ct_e n, if_neg (by unfold ln_e; rw [if_pos rfl]; omega)]
theorem ln_R_e (hp : nn_p p) : ln_R p N ln_e := by
  have hp2 := (nn_p_pos hp).2.1
  refine fun r hr => ⟨fun c _ => ?_, Or.inr ⟨if_pos rfl, fun c hc => if_neg (by omega), fun q _ hq => if_neg (by omega)⟩⟩
  unfold ln_e
  split <;> omega
theorem ln_in_e (x : ln_V) : ln_in p N ln_e x := by
  intro c hc
  show nn_eq p (x c) (nn_sm N (fun r => x r * ln_e r c))
  rw [nn_sm_one N c hc (fun r _ hne => by rw [show ln_e r c = 0 from if_neg (by omega), Int.mul_zero]), show ln_e c c = 1 from if_pos rfl, Int.mul_one]
  exact nn_eq_rfl p _
theorem cm_ok_zero {f : Nat → Int} (hp : nn_p p) (h : f 0 = 0) : cm_ok p N (fun _ _ => 0) f := by
  refine ⟨fun r _ => ⟨fun c _ => ⟨Int.le_refl 0, (nn_p_pos hp).1⟩, Or.inl fun _ _ => rfl⟩, ?_, fun r _ hl => absurd rfl hl⟩
  rw [ln_ct_0 N (fun _ _ => rfl), h]
  rfl
theorem cm_ok_copy {R : Nat → ln_V} {f f' : Nat → Int} (hN : N ≤ 5) (h : cm_ok p N R f) (hs : ∀ k, k < 26 → f' k = f k) : cm_ok p N R f' := by
  obtain ⟨h1, h2, h3⟩ := h
  refine ⟨h1, by rw [hs 0 (by omega)]; exact h2, fun r hr hl k hk => ?_⟩
  have := ln_ct_lt (R := R) hr hl
  have := ln_ct_w R N
  rw [hs _ (by omega)]
  exact h3 r hr hl k hk
theorem cm_row {R : Nat → ln_V} {f : Nat → Int} (h : cm_ok p N R f) (hN : N ≤ 5) {j : Nat} (hj : j < ln_ct R N) : ∃ r, r < N ∧ R r r ≠ 0 ∧ ln_ct R r = j ∧ (∀ k, k < N → f (1 + 5 * j + k) = R r k) ∧ ∀ k, k < N → 0 ≤ f (1 + 5 * j + k) ∧ f (1 + 5 * j + k) < p := by
  obtain ⟨r, h1, h2, h3⟩ := ln_ct_ex N j hj
  have e : ∀ k, k < N → f (1 + 5 * j + k) = R r k := fun k hk => by
    have h9 := h.2.2 r h1 h2 k (by omega)
    rw [h3, if_pos hk] at h9
    exact h9
  exact ⟨r, h1, h2, h3, e, fun k hk => by rw [e k hk]; exact (h.1 r h1).1 k hk⟩
theorem tt_bk_ext {u u' v v' : ln_V} (hu : ∀ i, i < N → u i = u' i) (hv : ∀ i, i < N → v i = v' i) (k : Nat) : tt_bk p N T u v k = tt_bk p N T u' v' k := by
  unfold tt_bk
  refine congrArg (· % p) (nn_sm_congr N (fun i hi => nn_sm_congr N (fun j hj => ?_)))
  rw [hu i hi, hv j hj]
theorem tt_bk_out (ht : tt_ok p N T) (u v : ln_V) {k : Nat} (hk : N ≤ k) : tt_bk p N T u v k = 0 := by
  obtain ⟨-, -, -, -, h0, -⟩ := ht
  unfold tt_bk
  rw [nn_sm_0 N (fun i _ => nn_sm_0 N (fun j _ => by rw [h0 i j k (Or.inr (Or.inr hk)), Int.mul_zero])), Int.zero_emod]
theorem d_whole_loop {f0 : Nat → Int} (hp : nn_p p) (hN : N ≤ 5) (h1 : s 1 = (N : Int)) (hQ : ∀ f', cm_ok p N ln_e f' → Q none [o_s, c_A 127 s, c_A 26 f']) :
    ∀ (m K : Nat) (f : Nat → Int) (k : Int), K + m = 5 * N → k = K → f 0 = (N : Int) → (∀ j, j < K → f (1 + j) = if j / 5 = j % 5 then 1 else 0) → pj_WP X m_Mo_makeWhole 11 [.inr 0, .inr 2, .inl k] [] [o_s, c_A 127 s, c_A 26 f] Q := by
  have h1' : s (Int.toNat 1) = (N : Int) := h1
  intro m
  induction m with
  | zero =>
    intro K f k hK hk h0 hf
    refine wp_b rfl (by rw [h1']; omega) (fun c => ?_) (fun c => absurd c (by rw [h1']; omega))
    refine wp_r rfl (by omega) (hQ f ⟨ln_R_e hp, by rw [h0, ln_ct_e], fun r hr _ j hj => ?_⟩)
    rw [ln_ct_e, show 1 + 5 * r + j = 1 + (5 * r + j) by omega, hf (5 * r + j) (by omega)]
    unfold ln_e
    by_cases e : j = r
    · rw [if_pos (show (5 * r + j) / 5 = (5 * r + j) % 5 by omega), if_pos (show j < N by omega), if_pos e]
    · rw [if_neg (show ¬ (5 * r + j) / 5 = (5 * r + j) % 5 by omega), if_neg e]
      split <;> rfl
  | succ m ih =>
    intro K f k hK hk h0 hf
    have e1 : (1 + k).toNat = 1 + K := by omega
    have ed : k.tdiv 5 = ((K / 5 : Nat) : Int) := by rw [Int.tdiv_eq_ediv_of_nonneg (by omega)]; omega
    have em : k.tmod 5 = ((K % 5 : Nat) : Int) := by rw [Int.tmod_eq_emod_of_nonneg (by omega)]; omega
    have next : ∀ x : Int, x = (if K / 5 = K % 5 then 1 else 0) → ∀ j, j < K + 1 → pj_up f (1 + k).toNat x (1 + j) = if j / 5 = j % 5 then 1 else 0 := fun x hx j hj => by
      unfold pj_up
      rw [e1]
      by_cases e : j = K
      · subst e
        rw [if_pos rfl, hx]
      · rw [if_neg (by omega)]
        exact hf j (by omega)
    have n0 : ∀ x : Int, pj_up f (1 + k).toNat x 0 = (N : Int) := fun x => by
      unfold pj_up
      rw [e1, if_neg (by omega)]
      exact h0
    refine wp_b rfl (by rw [h1']; omega) (fun c => absurd c (by rw [h1']; omega)) (fun c => ?_)
    refine wp_b rfl (by rw [ed, em]; omega) (fun c => ?_) (fun c => ?_)
    · rw [ed, em] at c
      refine wp_g rfl (by omega) ?_
      exact ih (K + 1) _ _ (by omega) (by omega) (n0 _) (next _ (by rw [if_neg (by omega)]))
    · rw [ed, em] at c
      refine wp_g rfl (by omega) ?_
      exact ih (K + 1) _ _ (by omega) (by omega) (n0 _) (next _ (by rw [if_pos (by omega)]))
/-- makeWhole(sub) -/
theorem d_makeWhole {f0 : Nat → Int} (hp : nn_p p) (hN : N ≤ 5) (h1 : s 1 = (N : Int)) (hQ : ∀ f', cm_ok p N ln_e f' → Q none [o_s, c_A 127 s, c_A 26 f']) : pj_ci X m_Mo_makeWhole [.inr 0, .inr 2] [o_s, c_A 127 s, c_A 26 f0] Q := by
  refine wp_g rfl (by omega) ?_
  exact d_whole_loop (f0 := f0) hp hN h1 hQ (5 * N) 0 _ _ (by omega) (by omega) h1 (fun j hj => by omega)
/-- vectorOf(index): what it answers -/
def vo_is (p : Int) (N : Nat) (R : Nat → ln_V) (I : Nat) (z : Int) : Prop := (ln_ct R N ≤ I ∧ z = -9) ∨ ∃ r, r < N ∧ R r r ≠ 0 ∧ ln_ct R r = I ∧ z = nn_nm p N (R r)
theorem vo_one {R R' : Nat → ln_V} {U : ln_P} {I : Nat} {z z' : Int} (hp : nn_p p) (hR : ds_is p N R U) (hR' : ds_is p N R' U) (h : vo_is p N R I z) (h' : vo_is p N R' I z') : z = z' := by
  have e := ds_uniq hp hR hR'
  have ec : ∀ r, r ≤ N → ln_ct R r = ln_ct R' r := fun r hr => ln_ct_congr r (fun q hq => by rw [e q q (by omega) (by omega)])
  rcases h with ⟨h1, h2⟩ | ⟨r, h1, h2, h3, h4⟩
  · rcases h' with ⟨k1, k2⟩ | ⟨q, k1, k2, k3, k4⟩
    · rw [h2, k2]
    · have := ln_ct_lt (R := R') k1 k2
      have := ec N (Nat.le_refl N)
      omega
  · rcases h' with ⟨k1, k2⟩ | ⟨q, k1, k2, k3, k4⟩
    · have := ln_ct_lt (R := R) h1 h2
      have := ec N (Nat.le_refl N)
      omega
    · have hl : R q q ≠ 0 := by rw [e q q k1 k1]; exact k2
      have hc : ln_ct R q = ln_ct R r := by rw [ec q (by omega), k3, h3]
      have := ln_ct_inj hl h2 hc
      subst this
      rw [h4, k4]
      exact nn_nm_congr N (fun c hc => e q c k1 hc)
theorem ct_one {R R' : Nat → ln_V} {U : ln_P} (hp : nn_p p) (hR : ds_is p N R U) (hR' : ds_is p N R' U) : ln_ct R N = ln_ct R' N := by
  have e := ds_uniq hp hR hR'
  exact ln_ct_congr N (fun q hq => by rw [e q q hq hq])
theorem d_vectorOf {i : Int} {I : Nat} {R : Nat → ln_V} {f : Nat → Int} (hN : N ≤ 5) (h0 : s 0 = p) (h1 : s 1 = (N : Int)) (hf : cm_ok p N R f) (hi : i = I) (hI : I ≤ 2147483647) (hQ : ∀ z : Int, vo_is p N R I z → Q (some (.inl z)) [o_v, c_A 127 s, c_A 26 f]) : pj_ci X m_Mo_vectorOf [.inr 0, .inl i] [o_v, c_A 127 s, c_A 26 f] Q := by
  have hf0 : f (Int.toNat 0) = (ln_ct R N : Int) := hf.2.1
  have hw := ln_ct_w R N
  refine wp_b rfl (by omega) (fun c => ?_) (fun c => ?_)
  · exact wp_r rfl (by omega) (hQ _ (Or.inl ⟨by omega, rfl⟩))
  · obtain ⟨r, r1, r2, r3, r4, -⟩ := cm_row hf hN (j := I) (by omega)
    refine wp_c rfl (by omega) [0, 1, 2] (d_number (F := 1 + 5 * I) (by omega) hN h0 h1 (by omega) (by omega) ?_) rfl rfl rfl rfl
    refine wp_r rfl (by omega) (hQ _ (Or.inr ⟨r, r1, r2, r3, ?_⟩))
    exact nn_nm_congr N (fun k hk => r4 k hk)
set_option maxHeartbeats 2000000 in
theorem d_muA_in (ht : tt_ok p N T) (hs : st_m p N T s) {ww : Int} {L R RS : Nat → ln_V} {fL ot : Nat → Int} (hL : cm_ok p N L fL) (hR : cm_ok p N R ot) {a : Nat} {ai : Int} (ha : ai = a) (haL : a < ln_ct L N)
    (hQ : ∀ (h r sp : Nat → Int) (R' : Nat → ln_V) (d : pj_V), cm_ok p N R' sp → (∀ W, ln_sub p N W → (ln_g N R' W ↔ ln_g N RS W ∧ ap_pd p N T L R a (ln_ct R N) W)) → pj_WP X m_Mo_multiply 114 [.inr 0, .inr 6, .inl ww, .inr 4, .inl ai, d] [] (w_m s h r fL ot sp) Q) :
    ∀ (m b : Nat) (h r sp : Nat → Int) (R' : Nat → ln_V) (bi : Int), b + m = ln_ct R N → bi = b → cm_ok p N R' sp → (∀ W, ln_sub p N W → (ln_g N R' W ↔ ln_g N RS W ∧ ap_pd p N T L R a b W)) → pj_WP X m_Mo_multiply 65 [.inr 0, .inr 6, .inl ww, .inr 4, .inl ai, .inl bi] [] (w_m s h r fL ot sp) Q := by
  obtain ⟨hp, h1N, hN, hT, -⟩ := id ht
  obtain ⟨hp1, hp2, hp3⟩ := nn_p_pos hp
  obtain ⟨s0, s1, -⟩ := id hs
  have hR0 : ot (Int.toNat 0) = (ln_ct R N : Int) := hR.2.1
  have hw := ln_ct_w R N
  have hw2 := ln_ct_w L N
  intro m
  induction m with
  | zero =>
    intro b h r sp R' bi hb hbi hok hinv
    refine wp_b rfl (by omega) (fun c => ?_) (fun c => absurd c (by omega))
    rw [show b = ln_ct R N by omega] at hinv
    exact hQ h r sp R' _ hok hinv
  | succ m ih =>
    intro b h r sp R' bi hb hbi hok hinv
    obtain ⟨r0, r1, r2, r3, r4, r5⟩ := cm_row hL hN haL
    obtain ⟨q0, q1, q2, q3, q4, q5⟩ := cm_row hR hN (j := b) (by omega)
    refine wp_b rfl (by omega) (fun c => absurd c (by omega)) (fun c => ?_)
    refine wp_c rfl (by omega) [0, 1, 3, 4, 5] (d_br (by omega) (by omega) ht hs (FU := 1 + 5 * a) (FV := 1 + 5 * b) (by omega) (by omega) (by omega) (by omega) (fun i hi => r5 i hi) (fun i hi => q5 i hi) ?_) rfl rfl rfl rfl
    refine wp_h (w_m s h (fun k => if k < 5 then tt_bk p N T (fun i => fL (1 + 5 * a + i)) (fun j => ot (1 + 5 * b + j)) k else r k) fL ot sp) rfl ?_
    have e5 : ∀ k, k < 5 → (if 0 + k < 5 then tt_bk p N T (fun i => fL (1 + 5 * a + i)) (fun j => ot (1 + 5 * b + j)) (0 + k) else r (0 + k)) = tt_bk p N T (L r0) (R q0) k := fun k hk => by
      rw [Nat.zero_add, if_pos hk]
      exact tt_bk_ext r4 q4 k
    refine wp_c rfl (by omega) [0, 1, 2, 6, 3] (d_add (F := 0) (R := R') (by omega) hp hN s0 s1 hok rfl (by omega) (fun k hk => by
      rw [e5 k hk]
      have := tt_bk_rg (N := N) (T := T) hp1 (L r0) (R q0) k
      exact ⟨this.1, this.2, fun z => tt_bk_out ht _ _ z⟩) (fun sp2 h2 R2 bb hj hok2 => ?_)) rfl rfl rfl rfl
    refine wp_h (w_m s h2 (fun k => if k < 5 then tt_bk p N T (fun i => fL (1 + 5 * a + i)) (fun j => ot (1 + 5 * b + j)) k else r k) fL ot sp2) rfl ?_
    have hinv2 : ∀ W, ln_sub p N W → (ln_g N R2 W ↔ ln_g N RS W ∧ ap_pd p N T L R a (b + 1) W) := fun W hW => by
      rw [hj.2.1 W hW, hinv W hW, ap_pd_next r2 q2 r1 q1 r3 q3, and_assoc]
      have e : W (fun k => if 0 + k < 5 then tt_bk p N T (fun i => fL (1 + 5 * a + i)) (fun j => ot (1 + 5 * b + j)) (0 + k) else r (0 + k)) ↔ W (tt_bk p N T (L r0) (R q0)) := ⟨hW.2.2.2 _ _ (fun c hc => by rw [e5 c (by omega)]; exact nn_eq_rfl p _), hW.2.2.2 _ _ (fun c hc => by rw [e5 c (by omega)]; exact nn_eq_rfl p _)⟩
      rw [e]
    refine wp_g rfl (by omega) ?_
    exact ih (b + 1) _ _ _ _ _ (by omega) (by omega) hok2 hinv2
theorem d_muA_out (ht : tt_ok p N T) (hs : st_m p N T s) {ww : Int} {L R RS : Nat → ln_V} {fL ot : Nat → Int} (hL : cm_ok p N L fL) (hR : cm_ok p N R ot)
    (hQ : ∀ (h r sp : Nat → Int) (R' : Nat → ln_V) (d1 d2 : pj_V), cm_ok p N R' sp → (∀ W, ln_sub p N W → (ln_g N R' W ↔ ln_g N RS W ∧ ap_pd p N T L R (ln_ct L N) 0 W)) → pj_WP X m_Mo_multiply 120 [.inr 0, .inr 6, .inl ww, .inr 4, d1, d2] [] (w_m s h r fL ot sp) Q) :
    ∀ (m a : Nat) (h r sp : Nat → Int) (R' : Nat → ln_V) (ai : Int) (d : pj_V), a + m = ln_ct L N → ai = a → cm_ok p N R' sp → (∀ W, ln_sub p N W → (ln_g N R' W ↔ ln_g N RS W ∧ ap_pd p N T L R a 0 W)) → pj_WP X m_Mo_multiply 54 [.inr 0, .inr 6, .inl ww, .inr 4, .inl ai, d] [] (w_m s h r fL ot sp) Q := by
  obtain ⟨hp, h1N, hN, hT, -⟩ := id ht
  have hL0 : fL (Int.toNat 0) = (ln_ct L N : Int) := hL.2.1
  have hw2 := ln_ct_w L N
  intro m
  induction m with
  | zero =>
    intro a h r sp R' ai d ha hai hok hinv
    refine wp_b rfl (by omega) (fun c => ?_) (fun c => absurd c (by omega))
    rw [show a = ln_ct L N by omega] at hinv
    exact hQ h r sp R' _ _ hok hinv
  | succ m ih =>
    intro a h r sp R' ai d ha hai hok hinv
    refine wp_b rfl (by omega) (fun c => absurd c (by omega)) (fun c => ?_)
    refine wp_g rfl (by omega) ?_
    refine d_muA_in ht hs hL hR hai (by omega) (fun h r sp R' d hok hinv => ?_) (ln_ct R N) 0 _ _ _ R' _ (by omega) (by omega) hok hinv
    refine wp_g rfl (by omega) ?_
    exact ih (a + 1) _ _ _ R' _ _ (by omega) (by omega) hok (fun W hW => by rw [hinv W hW, ap_pd_row])
set_option maxHeartbeats 2000000 in
theorem d_muB_in (ht : tt_ok p N T) (hs : st_m p N T s) {ww : Int} {R RS : Nat → ln_V} {wh ot : Nat → Int} (hR : cm_ok p N R ot) {a : Nat} {ai : Int} (ha : ai = a) (haL : a < ln_ct R N)
    (hQ : ∀ (h r sp : Nat → Int) (R' : Nat → ln_V) (d : pj_V), cm_ok p N R' sp → (∀ W, ln_sub p N W → (ln_g N R' W ↔ ln_g N RS W ∧ ap_pd p N T R R a (ln_ct R N) W)) → pj_WP X m_Mo_multiply 114 [.inr 0, .inr 6, .inl ww, .inr 5, .inl ai, d] [] (w_m s h r wh ot sp) Q) :
    ∀ (m b : Nat) (h r sp : Nat → Int) (R' : Nat → ln_V) (bi : Int), b + m = ln_ct R N → bi = b → cm_ok p N R' sp → (∀ W, ln_sub p N W → (ln_g N R' W ↔ ln_g N RS W ∧ ap_pd p N T R R a b W)) → pj_WP X m_Mo_multiply 65 [.inr 0, .inr 6, .inl ww, .inr 5, .inl ai, .inl bi] [] (w_m s h r wh ot sp) Q := by
  obtain ⟨hp, h1N, hN, hT, -⟩ := id ht
  obtain ⟨hp1, hp2, hp3⟩ := nn_p_pos hp
  obtain ⟨s0, s1, -⟩ := id hs
  have hR0 : ot (Int.toNat 0) = (ln_ct R N : Int) := hR.2.1
  have hw := ln_ct_w R N
  have hw2 := ln_ct_w R N
  intro m
  induction m with
  | zero =>
    intro b h r sp R' bi hb hbi hok hinv
    refine wp_b rfl (by omega) (fun c => ?_) (fun c => absurd c (by omega))
    rw [show b = ln_ct R N by omega] at hinv
    exact hQ h r sp R' _ hok hinv
  | succ m ih =>
    intro b h r sp R' bi hb hbi hok hinv
    obtain ⟨r0, r1, r2, r3, r4, r5⟩ := cm_row hR hN haL
    obtain ⟨q0, q1, q2, q3, q4, q5⟩ := cm_row hR hN (j := b) (by omega)
    refine wp_b rfl (by omega) (fun c => absurd c (by omega)) (fun c => ?_)
    refine wp_c rfl (by omega) [0, 1, 3, 5] (d_brS (by omega) ht hs (FU := 1 + 5 * a) (FV := 1 + 5 * b) (by omega) (by omega) (by omega) (by omega) (fun i hi => r5 i hi) (fun i hi => q5 i hi) ?_) rfl rfl rfl rfl
    refine wp_h (w_m s h (fun k => if k < 5 then tt_bk p N T (fun i => ot (1 + 5 * a + i)) (fun j => ot (1 + 5 * b + j)) k else r k) wh ot sp) rfl ?_
    have e5 : ∀ k, k < 5 → (if 0 + k < 5 then tt_bk p N T (fun i => ot (1 + 5 * a + i)) (fun j => ot (1 + 5 * b + j)) (0 + k) else r (0 + k)) = tt_bk p N T (R r0) (R q0) k := fun k hk => by
      rw [Nat.zero_add, if_pos hk]
      exact tt_bk_ext r4 q4 k
    refine wp_c rfl (by omega) [0, 1, 2, 6, 3] (d_add (F := 0) (R := R') (by omega) hp hN s0 s1 hok rfl (by omega) (fun k hk => by
      rw [e5 k hk]
      have := tt_bk_rg (N := N) (T := T) hp1 (R r0) (R q0) k
      exact ⟨this.1, this.2, fun z => tt_bk_out ht _ _ z⟩) (fun sp2 h2 R2 bb hj hok2 => ?_)) rfl rfl rfl rfl
    refine wp_h (w_m s h2 (fun k => if k < 5 then tt_bk p N T (fun i => ot (1 + 5 * a + i)) (fun j => ot (1 + 5 * b + j)) k else r k) wh ot sp2) rfl ?_
    have hinv2 : ∀ W, ln_sub p N W → (ln_g N R2 W ↔ ln_g N RS W ∧ ap_pd p N T R R a (b + 1) W) := fun W hW => by
      rw [hj.2.1 W hW, hinv W hW, ap_pd_next r2 q2 r1 q1 r3 q3, and_assoc]
      have e : W (fun k => if 0 + k < 5 then tt_bk p N T (fun i => ot (1 + 5 * a + i)) (fun j => ot (1 + 5 * b + j)) (0 + k) else r (0 + k)) ↔ W (tt_bk p N T (R r0) (R q0)) := ⟨hW.2.2.2 _ _ (fun c hc => by rw [e5 c (by omega)]; exact nn_eq_rfl p _), hW.2.2.2 _ _ (fun c hc => by rw [e5 c (by omega)]; exact nn_eq_rfl p _)⟩
      rw [e]
    refine wp_g rfl (by omega) ?_
    exact ih (b + 1) _ _ _ _ _ (by omega) (by omega) hok2 hinv2
theorem d_muB_out (ht : tt_ok p N T) (hs : st_m p N T s) {ww : Int} {R RS : Nat → ln_V} {wh ot : Nat → Int} (hR : cm_ok p N R ot)
    (hQ : ∀ (h r sp : Nat → Int) (R' : Nat → ln_V) (d1 d2 : pj_V), cm_ok p N R' sp → (∀ W, ln_sub p N W → (ln_g N R' W ↔ ln_g N RS W ∧ ap_pd p N T R R (ln_ct R N) 0 W)) → pj_WP X m_Mo_multiply 120 [.inr 0, .inr 6, .inl ww, .inr 5, d1, d2] [] (w_m s h r wh ot sp) Q) :
    ∀ (m a : Nat) (h r sp : Nat → Int) (R' : Nat → ln_V) (ai : Int) (d : pj_V), a + m = ln_ct R N → ai = a → cm_ok p N R' sp → (∀ W, ln_sub p N W → (ln_g N R' W ↔ ln_g N RS W ∧ ap_pd p N T R R a 0 W)) → pj_WP X m_Mo_multiply 54 [.inr 0, .inr 6, .inl ww, .inr 5, .inl ai, d] [] (w_m s h r wh ot sp) Q := by
  obtain ⟨hp, h1N, hN, hT, -⟩ := id ht
  have hL0 : ot (Int.toNat 0) = (ln_ct R N : Int) := hR.2.1
  have hw2 := ln_ct_w R N
  intro m
  induction m with
  | zero =>
    intro a h r sp R' ai d ha hai hok hinv
    refine wp_b rfl (by omega) (fun c => ?_) (fun c => absurd c (by omega))
    rw [show a = ln_ct R N by omega] at hinv
    exact hQ h r sp R' _ _ hok hinv
  | succ m ih =>
    intro a h r sp R' ai d ha hai hok hinv
    refine wp_b rfl (by omega) (fun c => absurd c (by omega)) (fun c => ?_)
    refine wp_g rfl (by omega) ?_
    refine d_muB_in ht hs hR hai (by omega) (fun h r sp R' d hok hinv => ?_) (ln_ct R N) 0 _ _ _ R' _ (by omega) (by omega) hok hinv
    refine wp_g rfl (by omega) ?_
    exact ih (a + 1) _ _ _ R' _ _ (by omega) (by omega) hok (fun W hW => by rw [hinv W hW, ap_pd_row])
theorem d_mu_copy {w : Int} {h r wh sp : Nat → Int} {d4 d5 : pj_V}
    (hQ : ∀ (ot : Nat → Int) (d : pj_V), (∀ k, k < 26 → ot k = sp k) → pj_WP X m_Mo_multiply 31 [.inr 0, .inr 6, .inl w, d, d4, d5] [] (w_m s h r wh ot sp) Q) :
    ∀ (m K : Nat) (ot : Nat → Int) (k : Int), K + m = 26 → k = K → (∀ k, k < K → ot k = sp k) → pj_WP X m_Mo_multiply 10 [.inr 0, .inr 6, .inl w, .inl k, d4, d5] [] (w_m s h r wh ot sp) Q := by
  intro m
  induction m with
  | zero =>
    intro K ot k hK hk ho
    refine wp_b rfl (by omega) (fun c => ?_) (fun c => absurd c (by omega))
    exact hQ ot _ (fun k hk => ho k (by omega))
  | succ m ih =>
    intro K ot k hK hk ho
    refine wp_b rfl (by omega) (fun c => absurd c (by omega)) (fun c => ?_)
    refine wp_g rfl (by omega) ?_
    refine ih (K + 1) _ _ (by omega) (by omega) (fun j hj => ?_)
    unfold pj_up
    rw [show k.toNat = K by omega]
    by_cases e : j = K
    · rw [if_pos e, e]
    · rw [if_neg e]
      exact ho j (by omega)
/-- all products of the leads' rows -/
def mu_is (p : Int) (N : Nat) (T : Nat → Nat → Nat → Int) (L R R' : Nat → ln_V) : Prop := ∀ W, ln_sub p N W → (ln_g N R' W ↔ ∀ r q, r < N → q < N → L r r ≠ 0 → R q q ≠ 0 → W (tt_bk p N T (L r) (R q)))
/-- multiply(space, byWhole) with 1 -/
theorem d_muA (ht : tt_ok p N T) (hs : st_m p N T s) {R : Nat → ln_V} {h r wh ot sp : Nat → Int} (hR : cm_ok p N R sp)
    (hQ : ∀ (h r wh ot sp : Nat → Int) (R' : Nat → ln_V), cm_ok p N R' sp → mu_is p N T ln_e R R' → Q none (w_m s h r wh ot sp)) : pj_ci X m_Mo_multiply [.inr 0, .inr 6, .inl 1] (w_m s h r wh ot sp) Q := by
  obtain ⟨hp, h1N, hN, hT, -⟩ := id ht
  obtain ⟨s0, s1, -⟩ := id hs
  refine wp_c rfl (by omega) [0, 1, 4] (d_makeWhole hp hN s1 (fun wh1 hwh => ?_)) rfl rfl rfl rfl
  refine wp_h (w_m s h r wh1 ot sp) rfl ?_
  refine wp_g rfl (by omega) ?_
  refine d_mu_copy (fun ot1 d hot => ?_) 26 0 _ _ (by omega) (by omega) (fun k hk => by omega)
  have hok := cm_ok_copy hN hR hot
  refine wp_b rfl (by omega) (fun c => ?_) (fun c => ?_)
  · exact absurd c (by omega)
  · refine wp_g rfl (by omega) ?_
    refine d_muA_out (RS := fun _ _ => 0) ht hs hwh hok (fun h r sp R' d1 d2 hok2 hinv => ?_) (ln_ct ln_e N) 0 _ _ _ (fun _ _ => 0) _ _ (by omega) (by omega) (cm_ok_zero hp rfl) (fun W hW => ⟨fun z => ⟨z, ap_pd_none⟩, fun z => z.1⟩)
    refine wp_r rfl (by omega) (hQ _ _ _ _ _ R' hok2 (fun W hW => ?_))
    rw [hinv W hW, ap_pd_all]
    exact ⟨fun z => z.2, fun z => ⟨fun _ _ => hW.1, z⟩⟩
/-- multiply(space, byWhole) with 0 -/
theorem d_muB (ht : tt_ok p N T) (hs : st_m p N T s) {R : Nat → ln_V} {h r wh ot sp : Nat → Int} (hR : cm_ok p N R sp)
    (hQ : ∀ (h r wh ot sp : Nat → Int) (R' : Nat → ln_V), cm_ok p N R' sp → mu_is p N T R R R' → Q none (w_m s h r wh ot sp)) : pj_ci X m_Mo_multiply [.inr 0, .inr 6, .inl 0] (w_m s h r wh ot sp) Q := by
  obtain ⟨hp, h1N, hN, hT, -⟩ := id ht
  obtain ⟨s0, s1, -⟩ := id hs
  refine wp_c rfl (by omega) [0, 1, 4] (d_makeWhole hp hN s1 (fun wh1 hwh => ?_)) rfl rfl rfl rfl
  refine wp_h (w_m s h r wh1 ot sp) rfl ?_
  refine wp_g rfl (by omega) ?_
  refine d_mu_copy (fun ot1 d hot => ?_) 26 0 _ _ (by omega) (by omega) (fun k hk => by omega)
  have hok := cm_ok_copy hN hR hot
  refine wp_b rfl (by omega) (fun c => ?_) (fun c => ?_)
  · refine wp_g rfl (by omega) ?_
    refine d_muB_out (RS := fun _ _ => 0) ht hs hok (fun h r sp R' d1 d2 hok2 hinv => ?_) (ln_ct R N) 0 _ _ _ (fun _ _ => 0) _ _ (by omega) (by omega) (cm_ok_zero hp rfl) (fun W hW => ⟨fun z => ⟨z, ap_pd_none⟩, fun z => z.1⟩)
    refine wp_r rfl (by omega) (hQ _ _ _ _ _ R' hok2 (fun W hW => ?_))
    rw [hinv W hW, ap_pd_all]
    exact ⟨fun z => z.2, fun z => ⟨fun _ _ => hW.1, z⟩⟩
  · exact absurd rfl c
theorem d_lvA_loop (ht : tt_ok p N T) (hs : st_m p N T s) {lv : Int} {Lv : Nat} (hlv : lv = Lv) (hLv : Lv ≤ 9)
    (hQ : ∀ (h r wh ot sp : Nat → Int) (R' : Nat → ln_V), cm_ok p N R' sp → ds_is p N R' (ds_D p N T true Lv) → Q (some (.inl (ln_ct R' N : Int))) (w_m s h r wh ot sp)) :
    ∀ (m K : Nat) (h r wh ot sp : Nat → Int) (k : Int) (R : Nat → ln_V), K + m = Lv → k = K → cm_ok p N R sp → ds_is p N R (ds_D p N T true K) → pj_WP X m_Mo_makeLevel 10 [.inr 0, .inl lv, .inl 1, .inl k] [] (w_m s h r wh ot sp) Q := by
  obtain ⟨hp, h1N, hN, hT, -⟩ := id ht
  intro m
  induction m with
  | zero =>
    intro K h r wh ot sp k R hK hk hok his
    have e0 : sp (Int.toNat 0) = (ln_ct R N : Int) := hok.2.1
    refine wp_b rfl (by omega) (fun c => ?_) (fun c => absurd c (by omega))
    refine wp_r rfl (by omega) ?_
    rw [e0]
    exact hQ _ _ _ _ _ R hok (by rw [show K = Lv by omega] at his; exact his)
  | succ m ih =>
    intro K h r wh ot sp k R hK hk hok his
    refine wp_b rfl (by omega) (fun c => absurd c (by omega)) (fun c => ?_)
    refine wp_c rfl (by omega) [0, 1, 2, 3, 4, 5, 6] (d_muA ht hs hok (fun h r wh ot sp R' hok2 hmu => ?_)) rfl rfl rfl rfl
    refine wp_h (w_m s h r wh ot sp) rfl ?_
    refine wp_g rfl (by omega) ?_
    refine ih (K + 1) _ _ _ _ _ _ R' (by omega) (by omega) hok2 (ds_step his hok2.1 (ln_R_e hp) (fun x => ⟨fun _ => Or.inl rfl, fun _ => ln_in_e x⟩) hmu)
/-- makeLevel(level, true) -/
theorem d_lvA (ht : tt_ok p N T) (hs : st_m p N T s) {lv : Int} {Lv : Nat} (hlv : lv = Lv) (hLv : Lv ≤ 9) {h r wh ot sp : Nat → Int}
    (hQ : ∀ (h r wh ot sp : Nat → Int) (R' : Nat → ln_V), cm_ok p N R' sp → ds_is p N R' (ds_D p N T true Lv) → Q (some (.inl (ln_ct R' N : Int))) (w_m s h r wh ot sp)) : pj_ci X m_Mo_makeLevel [.inr 0, .inl lv, .inl 1] (w_m s h r wh ot sp) Q := by
  obtain ⟨hp, h1N, hN, hT, -⟩ := id ht
  refine wp_c rfl (by omega) [0, 1, 6] (d_makeWhole hp hN hs.2.1 (fun sp1 hsp => ?_)) rfl rfl rfl rfl
  refine wp_h (w_m s h r wh ot sp1) rfl ?_
  refine wp_g rfl (by omega) ?_
  exact d_lvA_loop ht hs hlv hLv hQ Lv 0 _ _ _ _ _ _ ln_e (by omega) (by omega) hsp ⟨ln_R_e hp, fun x => ⟨fun _ => trivial, fun _ => ln_in_e x⟩⟩
theorem d_lvB_loop (ht : tt_ok p N T) (hs : st_m p N T s) {lv : Int} {Lv : Nat} (hlv : lv = Lv) (hLv : Lv ≤ 9)
    (hQ : ∀ (h r wh ot sp : Nat → Int) (R' : Nat → ln_V), cm_ok p N R' sp → ds_is p N R' (ds_D p N T false Lv) → Q (some (.inl (ln_ct R' N : Int))) (w_m s h r wh ot sp)) :
    ∀ (m K : Nat) (h r wh ot sp : Nat → Int) (k : Int) (R : Nat → ln_V), K + m = Lv → k = K → cm_ok p N R sp → ds_is p N R (ds_D p N T false K) → pj_WP X m_Mo_makeLevel 10 [.inr 0, .inl lv, .inl 0, .inl k] [] (w_m s h r wh ot sp) Q := by
  obtain ⟨hp, h1N, hN, hT, -⟩ := id ht
  intro m
  induction m with
  | zero =>
    intro K h r wh ot sp k R hK hk hok his
    have e0 : sp (Int.toNat 0) = (ln_ct R N : Int) := hok.2.1
    refine wp_b rfl (by omega) (fun c => ?_) (fun c => absurd c (by omega))
    refine wp_r rfl (by omega) ?_
    rw [e0]
    exact hQ _ _ _ _ _ R hok (by rw [show K = Lv by omega] at his; exact his)
  | succ m ih =>
    intro K h r wh ot sp k R hK hk hok his
    refine wp_b rfl (by omega) (fun c => absurd c (by omega)) (fun c => ?_)
    refine wp_c rfl (by omega) [0, 1, 2, 3, 4, 5, 6] (d_muB ht hs hok (fun h r wh ot sp R' hok2 hmu => ?_)) rfl rfl rfl rfl
    refine wp_h (w_m s h r wh ot sp) rfl ?_
    refine wp_g rfl (by omega) ?_
    refine ih (K + 1) _ _ _ _ _ _ R' (by omega) (by omega) hok2 (ds_step his hok2.1 his.1 (fun x => ⟨fun z => Or.inr ((his.2 x).mp z), fun z => z.elim (fun y => by cases y) (his.2 x).mpr⟩) hmu)
/-- makeLevel(level, false) -/
theorem d_lvB (ht : tt_ok p N T) (hs : st_m p N T s) {lv : Int} {Lv : Nat} (hlv : lv = Lv) (hLv : Lv ≤ 9) {h r wh ot sp : Nat → Int}
    (hQ : ∀ (h r wh ot sp : Nat → Int) (R' : Nat → ln_V), cm_ok p N R' sp → ds_is p N R' (ds_D p N T false Lv) → Q (some (.inl (ln_ct R' N : Int))) (w_m s h r wh ot sp)) : pj_ci X m_Mo_makeLevel [.inr 0, .inl lv, .inl 0] (w_m s h r wh ot sp) Q := by
  obtain ⟨hp, h1N, hN, hT, -⟩ := id ht
  refine wp_c rfl (by omega) [0, 1, 6] (d_makeWhole hp hN hs.2.1 (fun sp1 hsp => ?_)) rfl rfl rfl rfl
  refine wp_h (w_m s h r wh ot sp1) rfl ?_
  refine wp_g rfl (by omega) ?_
  exact d_lvB_loop ht hs hlv hLv hQ Lv 0 _ _ _ _ _ _ ln_e (by omega) (by omega) hsp ⟨ln_R_e hp, fun x => ⟨fun _ => trivial, fun _ => ln_in_e x⟩⟩
end LEV
