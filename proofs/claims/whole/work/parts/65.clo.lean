/-! THE MODEL: close, makeSubalgebra, ideal and subalgebra -/
abbrev o_g : pj_C := .inr (8, [v_u, .inr 1, v_u, v_u, v_u, v_u, v_u, v_u, .inr 7, v_u, .inr 3, v_u, v_u, v_u, v_u, .inr 6, .inr 5, .inr 2, .inr 4, v_u, v_u, v_u, v_u, v_u, v_u, v_u, v_u, v_u])
abbrev o_g0 : pj_C := .inr (8, [.inl 0, .inr 1, v_u, v_u, v_u, v_u, v_u, v_u, .inr 7, v_u, .inr 3, v_u, v_u, v_u, v_u, .inr 6, .inr 5, .inr 2, .inr 4, v_u, v_u, v_u, v_u, v_u, v_u, v_u, v_u, v_u])
abbrev w_g (s h r wh ot sp on : Nat → Int) : List pj_C := [o_g, c_A 127 s, c_A 5 h, c_A 5 r, c_A 26 wh, c_A 26 ot, c_A 26 sp, c_A 5 on]
abbrev w_g0 (s h r wh ot sp on : Nat → Int) : List pj_C := [o_g0, c_A 127 s, c_A 5 h, c_A 5 r, c_A 26 wh, c_A 26 ot, c_A 26 sp, c_A 5 on]
section CLO
variable {X : pj_X} {Q : pj_Q} {p : Int} {N : Nat} {T : Nat → Nat → Nat → Int} {s : Nat → Int}
/-- whether a round has grown -/
def gw_ok (N : Nat) (RS R' : Nat → ln_V) (gr : Int) : Prop := (gr = 0 ∧ ∀ r c, r < N → c < N → R' r c = RS r c) ∨ (gr = 1 ∧ ln_ct RS N < ln_ct R' N)
theorem gw_01 {RS R' : Nat → ln_V} {gr : Int} (h : gw_ok N RS R' gr) : gr = 0 ∨ gr = 1 := h.imp (fun z => z.1) (fun z => z.1)
theorem gw_le {RS R' : Nat → ln_V} {gr : Int} (h : gw_ok N RS R' gr) : ln_ct RS N ≤ ln_ct R' N := by
  rcases h with ⟨-, h⟩ | ⟨-, h⟩
  · have e : ln_ct R' N = ln_ct RS N := ln_ct_congr N (fun r hr => by rw [h r r hr hr])
    omega
  · omega
theorem gw_up {RS R' R2 : Nat → ln_V} {v : ln_V} {gr : Int} (h : gw_ok N RS R' gr) (hj : ln_join p N R' v R2 true) : gw_ok N RS R2 1 := by
  have := gw_le h
  refine Or.inr ⟨rfl, ?_⟩
  rw [hj.2.2.1, if_pos rfl]
  omega
theorem gw_same {RS R' R2 : Nat → ln_V} {v : ln_V} {gr : Int} (h : gw_ok N RS R' gr) (hj : ln_join p N R' v R2 false) : gw_ok N RS R2 gr := by
  rcases h with ⟨e, h⟩ | ⟨e, h⟩
  · exact Or.inl ⟨e, fun r c hr hc => (hj.2.2.2.2 rfl r c hr hc).trans (h r c hr hc)⟩
  · refine Or.inr ⟨e, ?_⟩
    rw [hj.2.2.1, if_neg Bool.false_ne_true]
    omega
set_option maxHeartbeats 2000000 in
theorem d_clA_in (ht : tt_ok p N T) (hs : st_m p N T s) {ww : Int} {L R RS : Nat → ln_V} {fL ot : Nat → Int} (hL : cm_ok p N L fL) (hR : cm_ok p N R ot) {a : Nat} {ai : Int} (ha : ai = a) (haL : a < ln_ct L N)
    (hQ : ∀ (h r sp : Nat → Int) (gr : Int) (R' : Nat → ln_V) (d : pj_V), cm_ok p N R' sp → (∀ W, ln_sub p N W → (ln_g N R' W ↔ ln_g N RS W ∧ ap_pd p N T L R a (ln_ct R N) W)) → gw_ok N RS R' gr → pj_WP X m_Mo_close 136 [.inr 0, .inl ww, .inl gr, .inr 4, .inl ai, d] [] (w_m s h r fL ot sp) Q) :
    ∀ (m b : Nat) (h r sp : Nat → Int) (gr : Int) (R' : Nat → ln_V) (bi : Int), b + m = ln_ct R N → bi = b → cm_ok p N R' sp → (∀ W, ln_sub p N W → (ln_g N R' W ↔ ln_g N RS W ∧ ap_pd p N T L R a b W)) → gw_ok N RS R' gr → pj_WP X m_Mo_close 72 [.inr 0, .inl ww, .inl gr, .inr 4, .inl ai, .inl bi] [] (w_m s h r fL ot sp) Q := by
  obtain ⟨hp, h1N, hN, hT, -⟩ := id ht
  obtain ⟨hp1, hp2, hp3⟩ := nn_p_pos hp
  obtain ⟨s0, s1, -⟩ := id hs
  have hR0 : ot (Int.toNat 0) = (ln_ct R N : Int) := hR.2.1
  have hw := ln_ct_w R N
  have hw2 := ln_ct_w L N
  intro m
  induction m with
  | zero =>
    intro b h r sp gr R' bi hb hbi hok hinv hgr
    refine wp_b rfl (by omega) (fun c => ?_) (fun c => absurd c (by omega))
    rw [show b = ln_ct R N by omega] at hinv
    exact hQ h r sp gr R' _ hok hinv hgr
  | succ m ih =>
    intro b h r sp gr R' bi hb hbi hok hinv hgr
    obtain ⟨r0, r1, r2, r3, r4, r5⟩ := cm_row hL hN haL
    obtain ⟨q0, q1, q2, q3, q4, q5⟩ := cm_row hR hN (j := b) (by omega)
    refine wp_b rfl (by omega) (fun c => absurd c (by omega)) (fun c => ?_)
    refine wp_c rfl (by omega) [0, 1, 3, 4, 5] (d_br (by omega) (by omega) ht hs (FU := 1 + 5 * a) (FV := 1 + 5 * b) (by omega) (by omega) (by omega) (by omega) (fun i hi => r5 i hi) (fun i hi => q5 i hi) ?_) rfl rfl rfl rfl
    refine wp_h (w_m s h (fun k => if k < 5 then tt_bk p N T (fun i => fL (1 + 5 * a + i)) (fun j => ot (1 + 5 * b + j)) k else r k) fL ot sp) rfl ?_
    have e5 : ∀ k, k < 5 → (if 0 + k < 5 then tt_bk p N T (fun i => fL (1 + 5 * a + i)) (fun j => ot (1 + 5 * b + j)) (0 + k) else r (0 + k)) = tt_bk p N T (L r0) (R q0) k := fun k hk => by
      rw [Nat.zero_add, if_pos hk]
      exact tt_bk_ext r4 q4 k
    refine wp_c rfl (by omega) [0, 1, 2, 6, 3] (d_add (F := 0) (R := R') (by omega) hp hN s0 s1 hok rfl (by omega) (fun k hk => by
      rw [e5 k hk]
      have := tt_bk_rg (N := N) (T := T) hp1 (L r0) (R q0) k
      exact ⟨this.1, this.2, fun z => tt_bk_out ht _ _ z⟩) (fun sp2 h2 R2 bb hj hok2 => ?_)) rfl rfl rfl rfl
    refine wp_h (w_m s h2 (fun k => if k < 5 then tt_bk p N T (fun i => fL (1 + 5 * a + i)) (fun j => ot (1 + 5 * b + j)) k else r k) fL ot sp2) rfl ?_
    have hinv2 : ∀ W, ln_sub p N W → (ln_g N R2 W ↔ ln_g N RS W ∧ ap_pd p N T L R a (b + 1) W) := fun W hW => by
      rw [hj.2.1 W hW, hinv W hW, ap_pd_next r2 q2 r1 q1 r3 q3, and_assoc]
      have e : W (fun k => if 0 + k < 5 then tt_bk p N T (fun i => fL (1 + 5 * a + i)) (fun j => ot (1 + 5 * b + j)) (0 + k) else r (0 + k)) ↔ W (tt_bk p N T (L r0) (R q0)) := ⟨hW.2.2.2 _ _ (fun c hc => by rw [e5 c (by omega)]; exact nn_eq_rfl p _), hW.2.2.2 _ _ (fun c hc => by rw [e5 c (by omega)]; exact nn_eq_rfl p _)⟩
      rw [e]
    cases hbb : bb with
    | true =>
      rw [show (if true = true then (1 : Int) else 0) = 1 from rfl]
      refine wp_b rfl (by omega) (fun c => ?_) (fun c => absurd c (by omega))
      refine wp_g rfl (by omega) ?_
      exact ih (b + 1) _ _ _ _ _ _ (by omega) (by omega) hok2 hinv2 (gw_up hgr (by rw [← hbb]; exact hj))
    | false =>
      rw [show (if false = true then (1 : Int) else 0) = 0 from rfl]
      have hgr2 := gw_same hgr (by rw [← hbb]; exact hj)
      refine wp_b rfl (by omega) (fun c => absurd rfl c) (fun c => ?_)
      rcases (gw_01 hgr) with e9 | e9
      · refine wp_b rfl (by omega) (fun c => ?_) (fun c => absurd e9 c)
        refine wp_g rfl (by omega) ?_
        exact ih (b + 1) _ _ _ _ _ _ (by omega) (by omega) hok2 hinv2 (by rw [← e9]; exact hgr2)
      · refine wp_b rfl (by omega) (fun c => absurd c (by omega)) (fun c => ?_)
        refine wp_g rfl (by omega) ?_
        exact ih (b + 1) _ _ _ _ _ _ (by omega) (by omega) hok2 hinv2 (by rw [← e9]; exact hgr2)
theorem d_clA_out (ht : tt_ok p N T) (hs : st_m p N T s) {ww : Int} {L R RS : Nat → ln_V} {fL ot : Nat → Int} (hL : cm_ok p N L fL) (hR : cm_ok p N R ot)
    (hQ : ∀ (h r sp : Nat → Int) (gr : Int) (R' : Nat → ln_V) (d1 d2 : pj_V), cm_ok p N R' sp → (∀ W, ln_sub p N W → (ln_g N R' W ↔ ln_g N RS W ∧ ap_pd p N T L R (ln_ct L N) 0 W)) → gw_ok N RS R' gr → pj_WP X m_Mo_close 142 [.inr 0, .inl ww, .inl gr, .inr 4, d1, d2] [] (w_m s h r fL ot sp) Q) :
    ∀ (m a : Nat) (h r sp : Nat → Int) (gr : Int) (R' : Nat → ln_V) (ai : Int) (d : pj_V), a + m = ln_ct L N → ai = a → cm_ok p N R' sp → (∀ W, ln_sub p N W → (ln_g N R' W ↔ ln_g N RS W ∧ ap_pd p N T L R a 0 W)) → gw_ok N RS R' gr → pj_WP X m_Mo_close 61 [.inr 0, .inl ww, .inl gr, .inr 4, .inl ai, d] [] (w_m s h r fL ot sp) Q := by
  obtain ⟨hp, h1N, hN, hT, -⟩ := id ht
  have hL0 : fL (Int.toNat 0) = (ln_ct L N : Int) := hL.2.1
  have hw2 := ln_ct_w L N
  intro m
  induction m with
  | zero =>
    intro a h r sp gr R' ai d ha hai hok hinv hgr
    refine wp_b rfl (by omega) (fun c => ?_) (fun c => absurd c (by omega))
    rw [show a = ln_ct L N by omega] at hinv
    exact hQ h r sp gr R' _ _ hok hinv hgr
  | succ m ih =>
    intro a h r sp gr R' ai d ha hai hok hinv hgr
    refine wp_b rfl (by omega) (fun c => absurd c (by omega)) (fun c => ?_)
    refine wp_g rfl (by omega) ?_
    refine d_clA_in ht hs hL hR hai (by omega) (fun h r sp gr R' d hok hinv hgr => ?_) (ln_ct R N) 0 _ _ _ _ R' _ (by omega) (by omega) hok hinv hgr
    refine wp_g rfl (by omega) ?_
    exact ih (a + 1) _ _ _ _ R' _ _ (by omega) (by omega) hok (fun W hW => by rw [hinv W hW, ap_pd_row]) hgr
set_option maxHeartbeats 2000000 in
theorem d_clB_in (ht : tt_ok p N T) (hs : st_m p N T s) {ww : Int} {R RS : Nat → ln_V} {wh ot : Nat → Int} (hR : cm_ok p N R ot) {a : Nat} {ai : Int} (ha : ai = a) (haL : a < ln_ct R N)
    (hQ : ∀ (h r sp : Nat → Int) (gr : Int) (R' : Nat → ln_V) (d : pj_V), cm_ok p N R' sp → (∀ W, ln_sub p N W → (ln_g N R' W ↔ ln_g N RS W ∧ ap_pd p N T R R a (ln_ct R N) W)) → gw_ok N RS R' gr → pj_WP X m_Mo_close 136 [.inr 0, .inl ww, .inl gr, .inr 5, .inl ai, d] [] (w_m s h r wh ot sp) Q) :
    ∀ (m b : Nat) (h r sp : Nat → Int) (gr : Int) (R' : Nat → ln_V) (bi : Int), b + m = ln_ct R N → bi = b → cm_ok p N R' sp → (∀ W, ln_sub p N W → (ln_g N R' W ↔ ln_g N RS W ∧ ap_pd p N T R R a b W)) → gw_ok N RS R' gr → pj_WP X m_Mo_close 72 [.inr 0, .inl ww, .inl gr, .inr 5, .inl ai, .inl bi] [] (w_m s h r wh ot sp) Q := by
  obtain ⟨hp, h1N, hN, hT, -⟩ := id ht
  obtain ⟨hp1, hp2, hp3⟩ := nn_p_pos hp
  obtain ⟨s0, s1, -⟩ := id hs
  have hR0 : ot (Int.toNat 0) = (ln_ct R N : Int) := hR.2.1
  have hw := ln_ct_w R N
  have hw2 := ln_ct_w R N
  intro m
  induction m with
  | zero =>
    intro b h r sp gr R' bi hb hbi hok hinv hgr
    refine wp_b rfl (by omega) (fun c => ?_) (fun c => absurd c (by omega))
    rw [show b = ln_ct R N by omega] at hinv
    exact hQ h r sp gr R' _ hok hinv hgr
  | succ m ih =>
    intro b h r sp gr R' bi hb hbi hok hinv hgr
    obtain ⟨r0, r1, r2, r3, r4, r5⟩ := cm_row hR hN haL
    obtain ⟨q0, q1, q2, q3, q4, q5⟩ := cm_row hR hN (j := b) (by omega)
    refine wp_b rfl (by omega) (fun c => absurd c (by omega)) (fun c => ?_)
    refine wp_c rfl (by omega) [0, 1, 3, 5] (d_brS (by omega) ht hs (FU := 1 + 5 * a) (FV := 1 + 5 * b) (by omega) (by omega) (by omega) (by omega) (fun i hi => r5 i hi) (fun i hi => q5 i hi) ?_) rfl rfl rfl rfl
    refine wp_h (w_m s h (fun k => if k < 5 then tt_bk p N T (fun i => ot (1 + 5 * a + i)) (fun j => ot (1 + 5 * b + j)) k else r k) wh ot sp) rfl ?_
    have e5 : ∀ k, k < 5 → (if 0 + k < 5 then tt_bk p N T (fun i => ot (1 + 5 * a + i)) (fun j => ot (1 + 5 * b + j)) (0 + k) else r (0 + k)) = tt_bk p N T (R r0) (R q0) k := fun k hk => by
      rw [Nat.zero_add, if_pos hk]
      exact tt_bk_ext r4 q4 k
    refine wp_c rfl (by omega) [0, 1, 2, 6, 3] (d_add (F := 0) (R := R') (by omega) hp hN s0 s1 hok rfl (by omega) (fun k hk => by
      rw [e5 k hk]
      have := tt_bk_rg (N := N) (T := T) hp1 (R r0) (R q0) k
      exact ⟨this.1, this.2, fun z => tt_bk_out ht _ _ z⟩) (fun sp2 h2 R2 bb hj hok2 => ?_)) rfl rfl rfl rfl
    refine wp_h (w_m s h2 (fun k => if k < 5 then tt_bk p N T (fun i => ot (1 + 5 * a + i)) (fun j => ot (1 + 5 * b + j)) k else r k) wh ot sp2) rfl ?_
    have hinv2 : ∀ W, ln_sub p N W → (ln_g N R2 W ↔ ln_g N RS W ∧ ap_pd p N T R R a (b + 1) W) := fun W hW => by
      rw [hj.2.1 W hW, hinv W hW, ap_pd_next r2 q2 r1 q1 r3 q3, and_assoc]
      have e : W (fun k => if 0 + k < 5 then tt_bk p N T (fun i => ot (1 + 5 * a + i)) (fun j => ot (1 + 5 * b + j)) (0 + k) else r (0 + k)) ↔ W (tt_bk p N T (R r0) (R q0)) := ⟨hW.2.2.2 _ _ (fun c hc => by rw [e5 c (by omega)]; exact nn_eq_rfl p _), hW.2.2.2 _ _ (fun c hc => by rw [e5 c (by omega)]; exact nn_eq_rfl p _)⟩
      rw [e]
    cases hbb : bb with
    | true =>
      rw [show (if true = true then (1 : Int) else 0) = 1 from rfl]
      refine wp_b rfl (by omega) (fun c => ?_) (fun c => absurd c (by omega))
      refine wp_g rfl (by omega) ?_
      exact ih (b + 1) _ _ _ _ _ _ (by omega) (by omega) hok2 hinv2 (gw_up hgr (by rw [← hbb]; exact hj))
    | false =>
      rw [show (if false = true then (1 : Int) else 0) = 0 from rfl]
      have hgr2 := gw_same hgr (by rw [← hbb]; exact hj)
      refine wp_b rfl (by omega) (fun c => absurd rfl c) (fun c => ?_)
      rcases (gw_01 hgr) with e9 | e9
      · refine wp_b rfl (by omega) (fun c => ?_) (fun c => absurd e9 c)
        refine wp_g rfl (by omega) ?_
        exact ih (b + 1) _ _ _ _ _ _ (by omega) (by omega) hok2 hinv2 (by rw [← e9]; exact hgr2)
      · refine wp_b rfl (by omega) (fun c => absurd c (by omega)) (fun c => ?_)
        refine wp_g rfl (by omega) ?_
        exact ih (b + 1) _ _ _ _ _ _ (by omega) (by omega) hok2 hinv2 (by rw [← e9]; exact hgr2)
theorem d_clB_out (ht : tt_ok p N T) (hs : st_m p N T s) {ww : Int} {R RS : Nat → ln_V} {wh ot : Nat → Int} (hR : cm_ok p N R ot)
    (hQ : ∀ (h r sp : Nat → Int) (gr : Int) (R' : Nat → ln_V) (d1 d2 : pj_V), cm_ok p N R' sp → (∀ W, ln_sub p N W → (ln_g N R' W ↔ ln_g N RS W ∧ ap_pd p N T R R (ln_ct R N) 0 W)) → gw_ok N RS R' gr → pj_WP X m_Mo_close 142 [.inr 0, .inl ww, .inl gr, .inr 5, d1, d2] [] (w_m s h r wh ot sp) Q) :
    ∀ (m a : Nat) (h r sp : Nat → Int) (gr : Int) (R' : Nat → ln_V) (ai : Int) (d : pj_V), a + m = ln_ct R N → ai = a → cm_ok p N R' sp → (∀ W, ln_sub p N W → (ln_g N R' W ↔ ln_g N RS W ∧ ap_pd p N T R R a 0 W)) → gw_ok N RS R' gr → pj_WP X m_Mo_close 61 [.inr 0, .inl ww, .inl gr, .inr 5, .inl ai, d] [] (w_m s h r wh ot sp) Q := by
  obtain ⟨hp, h1N, hN, hT, -⟩ := id ht
  have hL0 : ot (Int.toNat 0) = (ln_ct R N : Int) := hR.2.1
  have hw2 := ln_ct_w R N
  intro m
  induction m with
  | zero =>
    intro a h r sp gr R' ai d ha hai hok hinv hgr
    refine wp_b rfl (by omega) (fun c => ?_) (fun c => absurd c (by omega))
    rw [show a = ln_ct R N by omega] at hinv
    exact hQ h r sp gr R' _ _ hok hinv hgr
  | succ m ih =>
    intro a h r sp gr R' ai d ha hai hok hinv hgr
    refine wp_b rfl (by omega) (fun c => absurd c (by omega)) (fun c => ?_)
    refine wp_g rfl (by omega) ?_
    refine d_clB_in ht hs hR hai (by omega) (fun h r sp gr R' d hok hinv hgr => ?_) (ln_ct R N) 0 _ _ _ _ R' _ (by omega) (by omega) hok hinv hgr
    refine wp_g rfl (by omega) ?_
    exact ih (a + 1) _ _ _ _ R' _ _ (by omega) (by omega) hok (fun W hW => by rw [hinv W hW, ap_pd_row]) hgr
theorem d_cl_copy {w gr : Int} {h r wh sp : Nat → Int} {d4 d5 : pj_V}
    (hQ : ∀ (ot : Nat → Int) (d : pj_V), (∀ k, k < 26 → ot k = sp k) → pj_WP X m_Mo_close 42 [.inr 0, .inl w, .inl gr, d, d4, d5] [] (w_m s h r wh ot sp) Q) :
    ∀ (m K : Nat) (ot : Nat → Int) (k : Int), K + m = 26 → k = K → (∀ k, k < K → ot k = sp k) → pj_WP X m_Mo_close 18 [.inr 0, .inl w, .inl gr, .inl k, d4, d5] [] (w_m s h r wh ot sp) Q := by
  intro m
  induction m with
  | zero =>
    intro K ot k hK hk ho
    refine wp_b rfl (by omega) (fun c => ?_) (fun c => absurd c (by omega))
    exact hQ ot _ (fun k hk => ho k (by omega))
  | succ m ih =>
    intro K ot k hK hk ho
    refine wp_b rfl (by omega) (fun c => absurd c (by omega)) (fun c => ?_)
    refine wp_g rfl (by omega) ?_
    refine ih (K + 1) _ _ (by omega) (by omega) (fun j hj => ?_)
    unfold pj_up
    rw [show k.toNat = K by omega]
    by_cases e : j = K
    · rw [if_pos e, e]
    · rw [if_neg e]
      exact ho j (by omega)
set_option maxHeartbeats 1000000 in
theorem d_clA_loop (ht : tt_ok p N T) (hs : st_m p N T s) {RS : Nat → ln_V}
    (hQ : ∀ (h r wh ot sp : Nat → Int) (R' : Nat → ln_V), cm_ok p N R' sp → (∀ x, ln_in p N RS x → ln_in p N R' x) → (∀ K, ln_sub p N K → ln_g N RS K → (∀ u v, K v → K (tt_bk p N T u v)) → ln_g N R' K) → (∀ u v, ln_in p N R' v → ln_in p N R' (tt_bk p N T u v)) → Q none (w_m s h r wh ot sp)) :
    ∀ (m : Nat) (h r wh ot sp : Nat → Int) (gr : Int) (R : Nat → ln_V) (d3 d4 d5 : pj_V), cm_ok p N R sp → (∀ x, ln_in p N RS x → ln_in p N R x) → (∀ K, ln_sub p N K → ln_g N RS K → (∀ u v, K v → K (tt_bk p N T u v)) → ln_g N R K) → ((gr = 1 ∧ N + 1 ≤ ln_ct R N + m) ∨ (gr = 0 ∧ (∀ u v, ln_in p N R v → ln_in p N R (tt_bk p N T u v)))) → pj_WP X m_Mo_close 2 [.inr 0, .inl 1, .inl gr, d3, d4, d5] [] (w_m s h r wh ot sp) Q := by
  obtain ⟨hp, h1N, hN, hT, -⟩ := id ht
  obtain ⟨s0, s1, -⟩ := id hs
  intro m
  induction m with
  | zero =>
    intro h r wh ot sp gr R d3 d4 d5 hok hin hK hgr
    rcases hgr with ⟨e, hm⟩ | ⟨e, hcl⟩
    · have := ln_ct_w R N
      omega
    · refine wp_b rfl (by omega) (fun c => ?_) (fun c => absurd e c)
      exact wp_r rfl (by omega) (hQ _ _ _ _ _ R hok hin hK hcl)
  | succ m ih =>
    intro h r wh ot sp gr R d3 d4 d5 hok hin hK hgr
    rcases hgr with ⟨e, hm⟩ | ⟨e, hcl⟩
    · refine wp_b rfl (by omega) (fun c => absurd c (by omega)) (fun c => ?_)
      refine wp_c rfl (by omega) [0, 1, 4] (d_makeWhole hp hN s1 (fun wh1 hwh => ?_)) rfl rfl rfl rfl
      refine wp_h (w_m s h r wh1 ot sp) rfl ?_
      refine wp_g rfl (by omega) ?_
      refine d_cl_copy (fun ot1 d hot => ?_) 26 0 _ _ (by omega) (by omega) (fun k hk => by omega)
      have hok1 := cm_ok_copy hN hok hot
      have run : ∀ (h r sp : Nat → Int) (gr : Int) (R' : Nat → ln_V) (f d1 d2 : pj_V), cm_ok p N R' sp → (∀ W, ln_sub p N W → (ln_g N R' W ↔ ln_g N R W ∧ ap_pd p N T ln_e R (ln_ct ln_e N) 0 W)) → gw_ok N R R' gr → pj_WP X m_Mo_close 142 [.inr 0, .inl 1, .inl gr, f, d1, d2] [] (w_m s h r wh1 ot1 sp) Q := by
        intro h r sp gr R' f d1 d2 hok2 hinv hgr2
        have hrow' : ln_g N R' (ln_in p N R') := fun q hq => ln_in_row hok2.1 hq
        have hboth := (hinv _ (ln_in_sub R')).mp hrow'
        refine wp_g rfl (by omega) ?_
        refine ih _ _ _ _ _ _ R' _ _ _ hok2 (fun x hx => ln_in_W (ln_in_sub R') hboth.1 (hin x hx)) (fun K hK1 hK2 hK3 => (hinv K hK1).mpr ⟨hK K hK1 hK2 hK3, fun a b ha hb _ _ _ => hK3 _ _ (hK K hK1 hK2 hK3 b hb)⟩) ?_
        · rcases hgr2 with ⟨e9, hsm⟩ | ⟨e9, hlt⟩
          · refine Or.inr ⟨e9, ?_⟩
            have hb := ap_pd_all.mp hboth.2
            intro u v hv
            exact tt_bil (ln_in_sub R') (ln_R_e hp) hok.1 hb (ln_in_e u) ((ln_in_congr hsm).mp hv)
          · exact Or.inl ⟨e9, by omega⟩
      refine wp_b rfl (by omega) (fun c => ?_) (fun c => ?_)
      · exact absurd c (by omega)
        
      · skip
        refine wp_g rfl (by omega) ?_
        exact d_clA_out (RS := R) ht hs hwh hok1 (fun h r sp gr R' d1 d2 a1 a2 a3 => run h r sp gr R' _ d1 d2 a1 a2 a3) (ln_ct ln_e N) 0 _ _ _ _ R _ _ (by omega) (by omega) hok (fun W hW => ⟨fun z => ⟨z, ap_pd_none⟩, fun z => z.1⟩) (Or.inl ⟨rfl, fun _ _ _ _ => rfl⟩)
    · refine wp_b rfl (by omega) (fun c => ?_) (fun c => absurd e c)
      exact wp_r rfl (by omega) (hQ _ _ _ _ _ R hok hin hK hcl)
/-- close(true) -/
theorem d_clA (ht : tt_ok p N T) (hs : st_m p N T s) {RS : Nat → ln_V} {h r wh ot sp : Nat → Int} (hRS : cm_ok p N RS sp)
    (hQ : ∀ (h r wh ot sp : Nat → Int) (R' : Nat → ln_V), cm_ok p N R' sp → (∀ x, ln_in p N RS x → ln_in p N R' x) → (∀ K, ln_sub p N K → ln_g N RS K → (∀ u v, K v → K (tt_bk p N T u v)) → ln_g N R' K) → (∀ u v, ln_in p N R' v → ln_in p N R' (tt_bk p N T u v)) → Q none (w_m s h r wh ot sp)) : pj_ci X m_Mo_close [.inr 0, .inl 1] (w_m s h r wh ot sp) Q := by
  refine wp_g rfl (by omega) ?_
  exact d_clA_loop ht hs hQ (N + 1) _ _ _ _ _ _ RS _ _ _ hRS (fun x hx => hx) (fun K _ hg _ => hg) (Or.inl ⟨rfl, by omega⟩)
set_option maxHeartbeats 1000000 in
theorem d_clB_loop (ht : tt_ok p N T) (hs : st_m p N T s) {RS : Nat → ln_V}
    (hQ : ∀ (h r wh ot sp : Nat → Int) (R' : Nat → ln_V), cm_ok p N R' sp → (∀ x, ln_in p N RS x → ln_in p N R' x) → (∀ K, ln_sub p N K → ln_g N RS K → (∀ u v, K u → K v → K (tt_bk p N T u v)) → ln_g N R' K) → (∀ u v, ln_in p N R' u → ln_in p N R' v → ln_in p N R' (tt_bk p N T u v)) → Q none (w_m s h r wh ot sp)) :
    ∀ (m : Nat) (h r wh ot sp : Nat → Int) (gr : Int) (R : Nat → ln_V) (d3 d4 d5 : pj_V), cm_ok p N R sp → (∀ x, ln_in p N RS x → ln_in p N R x) → (∀ K, ln_sub p N K → ln_g N RS K → (∀ u v, K u → K v → K (tt_bk p N T u v)) → ln_g N R K) → ((gr = 1 ∧ N + 1 ≤ ln_ct R N + m) ∨ (gr = 0 ∧ (∀ u v, ln_in p N R u → ln_in p N R v → ln_in p N R (tt_bk p N T u v)))) → pj_WP X m_Mo_close 2 [.inr 0, .inl 0, .inl gr, d3, d4, d5] [] (w_m s h r wh ot sp) Q := by
  obtain ⟨hp, h1N, hN, hT, -⟩ := id ht
  obtain ⟨s0, s1, -⟩ := id hs
  intro m
  induction m with
  | zero =>
    intro h r wh ot sp gr R d3 d4 d5 hok hin hK hgr
    rcases hgr with ⟨e, hm⟩ | ⟨e, hcl⟩
    · have := ln_ct_w R N
      omega
    · refine wp_b rfl (by omega) (fun c => ?_) (fun c => absurd e c)
      exact wp_r rfl (by omega) (hQ _ _ _ _ _ R hok hin hK hcl)
  | succ m ih =>
    intro h r wh ot sp gr R d3 d4 d5 hok hin hK hgr
    rcases hgr with ⟨e, hm⟩ | ⟨e, hcl⟩
    · refine wp_b rfl (by omega) (fun c => absurd c (by omega)) (fun c => ?_)
      refine wp_c rfl (by omega) [0, 1, 4] (d_makeWhole hp hN s1 (fun wh1 hwh => ?_)) rfl rfl rfl rfl
      refine wp_h (w_m s h r wh1 ot sp) rfl ?_
      refine wp_g rfl (by omega) ?_
      refine d_cl_copy (fun ot1 d hot => ?_) 26 0 _ _ (by omega) (by omega) (fun k hk => by omega)
      have hok1 := cm_ok_copy hN hok hot
      have run : ∀ (h r sp : Nat → Int) (gr : Int) (R' : Nat → ln_V) (f d1 d2 : pj_V), cm_ok p N R' sp → (∀ W, ln_sub p N W → (ln_g N R' W ↔ ln_g N R W ∧ ap_pd p N T R R (ln_ct R N) 0 W)) → gw_ok N R R' gr → pj_WP X m_Mo_close 142 [.inr 0, .inl 0, .inl gr, f, d1, d2] [] (w_m s h r wh1 ot1 sp) Q := by
        intro h r sp gr R' f d1 d2 hok2 hinv hgr2
        have hrow' : ln_g N R' (ln_in p N R') := fun q hq => ln_in_row hok2.1 hq
        have hboth := (hinv _ (ln_in_sub R')).mp hrow'
        refine wp_g rfl (by omega) ?_
        refine ih _ _ _ _ _ _ R' _ _ _ hok2 (fun x hx => ln_in_W (ln_in_sub R') hboth.1 (hin x hx)) (fun K hK1 hK2 hK3 => (hinv K hK1).mpr ⟨hK K hK1 hK2 hK3, fun a b ha hb _ _ _ => hK3 _ _ (hK K hK1 hK2 hK3 a ha) (hK K hK1 hK2 hK3 b hb)⟩) ?_
        · rcases hgr2 with ⟨e9, hsm⟩ | ⟨e9, hlt⟩
          · refine Or.inr ⟨e9, ?_⟩
            have hb := ap_pd_all.mp hboth.2
            intro u v hu hv
            exact tt_bil (ln_in_sub R') hok.1 hok.1 hb ((ln_in_congr hsm).mp hu) ((ln_in_congr hsm).mp hv)
          · exact Or.inl ⟨e9, by omega⟩
      refine wp_b rfl (by omega) (fun c => ?_) (fun c => ?_)
      · skip
        refine wp_g rfl (by omega) ?_
        exact d_clB_out (RS := R) ht hs hok1 (fun h r sp gr R' d1 d2 a1 a2 a3 => run h r sp gr R' _ d1 d2 a1 a2 a3) (ln_ct R N) 0 _ _ _ _ R _ _ (by omega) (by omega) hok (fun W hW => ⟨fun z => ⟨z, ap_pd_none⟩, fun z => z.1⟩) (Or.inl ⟨rfl, fun _ _ _ _ => rfl⟩)
      · exact absurd rfl c
        
    · refine wp_b rfl (by omega) (fun c => ?_) (fun c => absurd e c)
      exact wp_r rfl (by omega) (hQ _ _ _ _ _ R hok hin hK hcl)
/-- close(false) -/
theorem d_clB (ht : tt_ok p N T) (hs : st_m p N T s) {RS : Nat → ln_V} {h r wh ot sp : Nat → Int} (hRS : cm_ok p N RS sp)
    (hQ : ∀ (h r wh ot sp : Nat → Int) (R' : Nat → ln_V), cm_ok p N R' sp → (∀ x, ln_in p N RS x → ln_in p N R' x) → (∀ K, ln_sub p N K → ln_g N RS K → (∀ u v, K u → K v → K (tt_bk p N T u v)) → ln_g N R' K) → (∀ u v, ln_in p N R' u → ln_in p N R' v → ln_in p N R' (tt_bk p N T u v)) → Q none (w_m s h r wh ot sp)) : pj_ci X m_Mo_close [.inr 0, .inl 0] (w_m s h r wh ot sp) Q := by
  refine wp_g rfl (by omega) ?_
  exact d_clB_loop ht hs hQ (N + 1) _ _ _ _ _ _ RS _ _ _ hRS (fun x hx => hx) (fun K _ hg _ => hg) (Or.inl ⟨rfl, by omega⟩)
/-- the row of a number, as read() lays it -/
abbrev rd_f (p : Int) (N : Nat) (v : Int) (g : Nat → Int) : Nat → Int := fun k => if k < 5 then (if k < N then nn_dg p v k else 0) else g k
theorem rd_f_ok (hp : nn_p p) {v : Int} {g : Nat → Int} : ∀ k, k < 5 → 0 ≤ rd_f p N v g (0 + k) ∧ rd_f p N v g (0 + k) < p ∧ (N ≤ k → rd_f p N v g (0 + k) = 0) := fun k hk => by
  have hp1 := (nn_p_pos hp).1
  have := nn_dg_rg hp1 k v
  show 0 ≤ (if 0 + k < 5 then (if 0 + k < N then nn_dg p v (0 + k) else 0) else g (0 + k)) ∧ (if 0 + k < 5 then (if 0 + k < N then nn_dg p v (0 + k) else 0) else g (0 + k)) < p ∧ (N ≤ k → (if 0 + k < 5 then (if 0 + k < N then nn_dg p v (0 + k) else 0) else g (0 + k)) = 0)
  rw [Nat.zero_add, if_pos hk]
  by_cases h : k < N
  · rw [if_pos h]
    exact ⟨this.1, this.2, fun z => by omega⟩
  · rw [if_neg h]
    exact ⟨Int.le_refl 0, hp1, fun _ => rfl⟩
theorem rd_f_eq (hN : N ≤ 5) {v : Int} {g : Nat → Int} {k : Nat} (hk : k < N) : rd_f p N v g k = nn_dg p v k := by
  show (if k < 5 then (if k < N then nn_dg p v k else 0) else g k) = _
  rw [if_pos (by omega), if_pos hk]
theorem rd_f_K (hN : N ≤ 5) {v : Int} {g : Nat → Int} {K : ln_P} (hK : ln_sub p N K) : K (fun k => rd_f p N v g (0 + k)) ↔ K (nn_dg p v) := by
  have e : ∀ c, c < N → rd_f p N v g (0 + c) = nn_dg p v c := fun c hc => by rw [Nat.zero_add]; exact rd_f_eq hN hc
  exact ⟨hK.2.2.2 _ _ (fun c hc => by rw [e c hc]; exact nn_eq_rfl p _), hK.2.2.2 _ _ (fun c hc => by rw [e c hc]; exact nn_eq_rfl p _)⟩
set_option maxHeartbeats 1000000 in
/-- makeSubalgebra(u, v) -/
theorem d_makeSub (ht : tt_ok p N T) (hs : st_m p N T s) {u v : Int} (hu : 0 ≤ u ∧ u ≤ 2147483647) (hv : 0 ≤ v ∧ v ≤ 2147483647) {h r wh ot sp on : Nat → Int}
    (hQ : ∀ (h r wh ot sp on : Nat → Int) (R' : Nat → ln_V), cm_ok p N R' sp → ds_is p N R' (ds_salg p N T (nn_dg p u) (nn_dg p v)) → Q none (w_g s h r wh ot sp on)) : pj_ci X m_Mo_makeSubalgebra [.inr 0, .inl u, .inl v] (w_g s h r wh ot sp on) Q := by
  obtain ⟨hp, h1N, hN, hT, -⟩ := id ht
  obtain ⟨s0, s1, -⟩ := id hs
  refine wp_c rfl (by omega) [0, 1, 7] (d_read hp hN s0 s1 hu ?_) rfl rfl rfl rfl
  refine wp_h (w_g s h r wh ot (pj_up sp (Int.toNat 0) 0) (rd_f p N u on)) rfl ?_
  refine wp_c rfl (by omega) [0, 1, 2, 6, 7] (d_add (len := 5) (F := 0) (b := pj_up sp (Int.toNat 0) 0) (R := fun _ _ => 0) (by omega) hp hN s0 s1 (cm_ok_zero hp rfl) rfl (by omega) (rd_f_ok hp) (fun sp2 h2 R2 bb hj hok2 => ?_)) rfl rfl rfl rfl
  refine wp_h (w_g s h2 r wh ot sp2 (rd_f p N u on)) rfl ?_
  have k2 := fun K hK => (ln_sp1 (p := p) (N := N) (fun _ _ _ _ => rfl) hj K hK).trans (rd_f_K hN hK)
  refine wp_c rfl (by omega) [0, 1, 7] (d_read hp hN s0 s1 hv ?_) rfl rfl rfl rfl
  refine wp_h (w_g s h2 r wh ot sp2 (rd_f p N v (rd_f p N u on))) rfl ?_
  refine wp_c rfl (by omega) [0, 1, 2, 6, 7] (d_add (len := 5) (F := 0) (R := R2) (by omega) hp hN s0 s1 hok2 rfl (by omega) (rd_f_ok hp) (fun sp3 h3 R3 bb3 hj3 hok3 => ?_)) rfl rfl rfl rfl
  refine wp_h (w_g s h3 r wh ot sp3 (rd_f p N v (rd_f p N u on))) rfl ?_
  have k3 : ∀ K, ln_sub p N K → (ln_g N R3 K ↔ K (nn_dg p u) ∧ K (nn_dg p v)) := fun K hK => by
    rw [hj3.2.1 K hK, k2 K hK, rd_f_K hN hK]
  refine wp_c rfl (by omega) [0, 1, 2, 3, 4, 5, 6] (d_clB ht hs (RS := R3) hok3 (fun h4 r4 wh4 ot4 sp4 R4 hok4 a1 a2 a3 => ?_)) rfl rfl rfl rfl
  have hR3 : ln_in p N R3 (nn_dg p u) ∧ ln_in p N R3 (nn_dg p v) := (k3 _ (ln_in_sub R3)).mp (fun q hq => ln_in_row hok3.1 hq)
  refine wp_r rfl (by omega) (hQ h4 r4 wh4 ot4 sp4 (rd_f p N v (rd_f p N u on)) R4 hok4 ⟨hok4.1, fun x => ⟨fun hx K hK b1 b2 b3 => ?_, fun hx => ?_⟩⟩)
  · exact ln_in_W hK (a2 K hK ((k3 K hK).mpr ⟨b1, b2⟩) b3) hx
  · exact hx _ (ln_in_sub _) (a1 _ hR3.1) (a1 _ hR3.2) a3
/-- subalgebraDimension(u, v): what it answers -/
def an_sd (p : Int) (N : Nat) (T : Nat → Nat → Nat → Int) (u v z : Int) : Prop := (¬ (0 ≤ u ∧ u < p ^ N ∧ 0 ≤ v ∧ v < p ^ N) ∧ z = -1) ∨ ((0 ≤ u ∧ u < p ^ N ∧ 0 ≤ v ∧ v < p ^ N) ∧ ∃ R, ds_is p N R (ds_salg p N T (nn_dg p u) (nn_dg p v)) ∧ z = (ln_ct R N : Int))
def an_sv (p : Int) (N : Nat) (T : Nat → Nat → Nat → Int) (u v i z : Int) : Prop := (¬ (0 ≤ u ∧ u < p ^ N ∧ 0 ≤ v ∧ v < p ^ N ∧ 0 ≤ i) ∧ z = -1) ∨ ((0 ≤ u ∧ u < p ^ N ∧ 0 ≤ v ∧ v < p ^ N ∧ 0 ≤ i) ∧ ∃ R, ds_is p N R (ds_salg p N T (nn_dg p u) (nn_dg p v)) ∧ vo_is p N R i.toNat z)
def an_id (p : Int) (N : Nat) (T : Nat → Nat → Nat → Int) (v z : Int) : Prop := (¬ (0 ≤ v ∧ v < p ^ N) ∧ z = -1) ∨ ((0 ≤ v ∧ v < p ^ N) ∧ ∃ R, ds_is p N R (ds_ideal p N T (nn_dg p v)) ∧ z = (ln_ct R N : Int))
theorem d_subDim (ht : tt_ok p N T) (hs : st_m p N T s) {u v : Int} (hu : pj_rg u) (hv : pj_rg v) {h r wh ot sp on : Nat → Int}
    (hQ : ∀ (h r wh ot sp on : Nat → Int) (z : Int), an_sd p N T u v z → Q (some (.inl z)) (w_g0 s h r wh ot sp on)) : pj_ci X m_Mo_subalgebraDimension [.inr 0, .inl u, .inl v] (w_g0 s h r wh ot sp on) Q := by
  obtain ⟨hp, h1N, hN, hT, -⟩ := id ht
  obtain ⟨s0, s1, -⟩ := id hs
  have hpw := nn_pwle hp N hN
  refine wp_c rfl (by omega) [0, 1] (d_isVector hp hN s0 s1 hu (fun a1 a2 => ?_) (fun a => ?_)) rfl rfl rfl rfl
  · refine wp_h (w_g0 s h r wh ot sp on) rfl ?_
    refine wp_b rfl (by omega) (fun c => absurd c (by omega)) (fun c => ?_)
    refine wp_c rfl (by omega) [0, 1] (d_isVector hp hN s0 s1 hv (fun b1 b2 => ?_) (fun b => ?_)) rfl rfl rfl rfl
    · refine wp_h (w_g0 s h r wh ot sp on) rfl ?_
      refine wp_b rfl (by omega) (fun c => ?_) (fun c => absurd c (by omega))
      refine wp_c rfl (by omega) [0, 1, 2, 3, 4, 5, 6, 7] (d_makeSub ht hs ⟨a1, by omega⟩ ⟨b1, by omega⟩ (fun h r wh ot sp on R hok his => ?_)) rfl rfl rfl rfl
      refine wp_r rfl (by omega) (hQ h r wh ot sp on _ (Or.inr ⟨⟨a1, a2, b1, b2⟩, R, his, hok.2.1⟩))
    · refine wp_h (w_g0 s h r wh ot sp on) rfl ?_
      refine wp_b rfl (by omega) (fun c => absurd rfl c) (fun c => ?_)
      exact wp_r rfl (by omega) (hQ h r wh ot sp on _ (Or.inl ⟨by omega, rfl⟩))
  · refine wp_h (w_g0 s h r wh ot sp on) rfl ?_
    refine wp_b rfl (by omega) (fun c => ?_) (fun c => absurd rfl c)
    exact wp_r rfl (by omega) (hQ h r wh ot sp on _ (Or.inl ⟨by omega, rfl⟩))
theorem d_subVec (ht : tt_ok p N T) (hs : st_m p N T s) {u v i : Int} (hu : pj_rg u) (hv : pj_rg v) (hi : pj_rg i) {h r wh ot sp on : Nat → Int}
    (hQ : ∀ (h r wh ot sp on : Nat → Int) (z : Int), an_sv p N T u v i z → Q (some (.inl z)) (w_g0 s h r wh ot sp on)) : pj_ci X m_Mo_subalgebraVector [.inr 0, .inl u, .inl v, .inl i] (w_g0 s h r wh ot sp on) Q := by
  obtain ⟨hp, h1N, hN, hT, -⟩ := id ht
  obtain ⟨s0, s1, -⟩ := id hs
  have hpw := nn_pwle hp N hN
  obtain ⟨hi1, hi2⟩ := hi
  refine wp_c rfl (by omega) [0, 1] (d_isVector hp hN s0 s1 hu (fun a1 a2 => ?_) (fun a => ?_)) rfl rfl rfl rfl
  · refine wp_h (w_g0 s h r wh ot sp on) rfl ?_
    refine wp_b rfl (by omega) (fun c => absurd c (by omega)) (fun c => ?_)
    refine wp_c rfl (by omega) [0, 1] (d_isVector hp hN s0 s1 hv (fun b1 b2 => ?_) (fun b => ?_)) rfl rfl rfl rfl
    · refine wp_h (w_g0 s h r wh ot sp on) rfl ?_
      refine wp_b rfl (by omega) (fun c => absurd c (by omega)) (fun c => ?_)
      refine wp_b rfl (by omega) (fun c => ?_) (fun c => ?_)
      · refine wp_c rfl (by omega) [0, 1, 2, 3, 4, 5, 6, 7] (d_makeSub ht hs ⟨a1, by omega⟩ ⟨b1, by omega⟩ (fun h r wh ot sp on R hok his => ?_)) rfl rfl rfl rfl
        refine wp_h (w_g0 s h r wh ot sp on) rfl ?_
        refine wp_c rfl (by omega) [0, 1, 6] (d_vectorOf (I := i.toNat) hN s0 s1 hok (by omega) (by omega) (fun z hz => ?_)) rfl rfl rfl rfl
        exact wp_r rfl (by omega) (hQ h r wh ot sp on _ (Or.inr ⟨⟨a1, a2, b1, b2, c⟩, R, his, hz⟩))
      · exact wp_r rfl (by omega) (hQ h r wh ot sp on _ (Or.inl ⟨by omega, rfl⟩))
    · refine wp_h (w_g0 s h r wh ot sp on) rfl ?_
      refine wp_b rfl (by omega) (fun c => ?_) (fun c => absurd rfl c)
      exact wp_r rfl (by omega) (hQ h r wh ot sp on _ (Or.inl ⟨by omega, rfl⟩))
  · refine wp_h (w_g0 s h r wh ot sp on) rfl ?_
    refine wp_b rfl (by omega) (fun c => ?_) (fun c => absurd rfl c)
    exact wp_r rfl (by omega) (hQ h r wh ot sp on _ (Or.inl ⟨by omega, rfl⟩))
theorem d_idealDim (ht : tt_ok p N T) (hs : st_m p N T s) {v : Int} (hv : pj_rg v) {h r wh ot sp on : Nat → Int}
    (hQ : ∀ (h r wh ot sp on : Nat → Int) (z : Int), an_id p N T v z → Q (some (.inl z)) (w_g0 s h r wh ot sp on)) : pj_ci X m_Mo_idealDimension [.inr 0, .inl v] (w_g0 s h r wh ot sp on) Q := by
  obtain ⟨hp, h1N, hN, hT, -⟩ := id ht
  obtain ⟨s0, s1, -⟩ := id hs
  have hpw := nn_pwle hp N hN
  refine wp_c rfl (by omega) [0, 1] (d_isVector hp hN s0 s1 hv (fun a1 a2 => ?_) (fun a => ?_)) rfl rfl rfl rfl
  · refine wp_h (w_g0 s h r wh ot sp on) rfl ?_
    refine wp_b rfl (by omega) (fun c => ?_) (fun c => absurd c (by omega))
    refine wp_c rfl (by omega) [0, 1, 7] (d_read hp hN s0 s1 ⟨a1, by omega⟩ ?_) rfl rfl rfl rfl
    refine wp_h (w_g0 s h r wh ot (pj_up sp (Int.toNat 0) 0) (rd_f p N v on)) rfl ?_
    refine wp_c rfl (by omega) [0, 1, 2, 6, 7] (d_add (len := 5) (F := 0) (b := pj_up sp (Int.toNat 0) 0) (R := fun _ _ => 0) (by omega) hp hN s0 s1 (cm_ok_zero hp rfl) rfl (by omega) (rd_f_ok hp) (fun sp2 h2 R2 bb hj hok2 => ?_)) rfl rfl rfl rfl
    refine wp_h (w_g0 s h2 r wh ot sp2 (rd_f p N v on)) rfl ?_
    have k2 := fun K hK => (ln_sp1 (p := p) (N := N) (fun _ _ _ _ => rfl) hj K hK).trans (rd_f_K hN hK)
    refine wp_c rfl (by omega) [0, 1, 2, 3, 4, 5, 6] (d_clA ht hs (RS := R2) hok2 (fun h4 r4 wh4 ot4 sp4 R4 hok4 a1' a2' a3 => ?_)) rfl rfl rfl rfl
    have hR2 : ln_in p N R2 (nn_dg p v) := (k2 _ (ln_in_sub R2)).mp (fun q hq => ln_in_row hok2.1 hq)
    refine wp_r rfl (by omega) (hQ h4 r4 wh4 ot4 sp4 (rd_f p N v on) _ (Or.inr ⟨⟨a1, a2⟩, R4, ⟨hok4.1, fun x => ⟨fun hx K hK b1 b3 => ?_, fun hx => ?_⟩⟩, hok4.2.1⟩))
    · exact ln_in_W hK (a2' K hK ((k2 K hK).mpr b1) b3) hx
    · exact hx _ (ln_in_sub _) (a1' _ hR2) a3
  · refine wp_h (w_g0 s h r wh ot sp on) rfl ?_
    refine wp_b rfl (by omega) (fun c => absurd rfl c) (fun c => ?_)
    exact wp_r rfl (by omega) (hQ h r wh ot sp on _ (Or.inl ⟨by omega, rfl⟩))
end CLO
