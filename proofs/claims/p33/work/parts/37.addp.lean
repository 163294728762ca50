/-! Spaces.addProducts: the sum apart (A1: two factors; A2: one), the sum the right factor (B1), the sum both (B2). Written by wip/tools/addp.py. -/
section ADDP
variable {X : pj_X} {Q : pj_Q} {p n : Int} {N : Nat} {T : Nat → Nat → Nat → Int} {br : Nat → Int}
theorem nn_nm_row {C W r : Nat} {f : Nat → Int} (hp : nn_p p) (hR : ln_R p W (sb_R C f)) (hr : r < W) (hW : W ≤ 5) : (0 ≤ nn_nm p W (sb_R C f r) ∧ nn_nm p W (sb_R C f r) ≤ 2147483647) ∧ ∀ c, c < W → nn_dg p (nn_nm p W (sb_R C f r)) c = sb_R C f r c := by
  have hp1 := (nn_p_pos hp).1
  have h := nn_nm_rg hp1 W (f := sb_R C f r) (fun c hc => (hR r hr).1 c hc)
  have h2 := nn_pwle hp W hW
  exact ⟨by omega, fun c hc => nn_dg_nm hp1 W (fun c hc => (hR r hr).1 c hc) c hc⟩
theorem tt_bk_num (hp : nn_p p) (hN : N ≤ 5) (u v : ln_V) : (0 ≤ nn_nm p N (tt_bk p N T u v) ∧ nn_nm p N (tt_bk p N T u v) ≤ 2147483647) ∧ ∀ c, c < N → nn_dg p (nn_nm p N (tt_bk p N T u v)) c = tt_bk p N T u v c := by
  have hp1 := (nn_p_pos hp).1
  have h := nn_nm_rg hp1 N (f := tt_bk p N T u v) (fun c _ => tt_bk_rg hp1 u v c)
  have h2 := nn_pwle hp N hN
  exact ⟨by omega, fun c hc => nn_dg_nm hp1 N (fun c _ => tt_bk_rg hp1 u v c) c hc⟩
/-- the products so far: of the leads numbered below a, and of that numbered a with those below b -/
def ap_pd (p : Int) (N : Nat) (T : Nat → Nat → Nat → Int) (L R : Nat → ln_V) (a b : Nat) (W : ln_P) : Prop := ∀ r q, r < N → q < N → L r r ≠ 0 → R q q ≠ 0 → (ln_ct L r < a ∨ (ln_ct L r = a ∧ ln_ct R q < b)) → W (tt_bk p N T (L r) (R q))
theorem ap_pd_next {L R : Nat → ln_V} {a b : Nat} {W : ln_P} {r0 q0 : Nat} (hr : L r0 r0 ≠ 0) (hq : R q0 q0 ≠ 0) (hr1 : r0 < N) (hq1 : q0 < N) (ha : ln_ct L r0 = a) (hb : ln_ct R q0 = b) : ap_pd p N T L R a (b + 1) W ↔ ap_pd p N T L R a b W ∧ W (tt_bk p N T (L r0) (R q0)) := by
  constructor
  · intro h
    exact ⟨fun r q h1 h2 h3 h4 h5 => h r q h1 h2 h3 h4 (by omega), h r0 q0 hr1 hq1 hr hq (by omega)⟩
  · rintro ⟨h, h0⟩ r q h1 h2 h3 h4 h5
    by_cases h6 : ln_ct L r = a ∧ ln_ct R q = b
    · have e1 := ln_ct_inj h3 hr (h6.1.trans ha.symm)
      have e2 := ln_ct_inj h4 hq (h6.2.trans hb.symm)
      rw [e1, e2]
      exact h0
    · exact h r q h1 h2 h3 h4 (by omega)
theorem ap_pd_row {L R : Nat → ln_V} {a : Nat} {W : ln_P} : ap_pd p N T L R a (ln_ct R N) W ↔ ap_pd p N T L R (a + 1) 0 W := by
  constructor
  · intro h r q h1 h2 h3 h4 h5
    have := ln_ct_lt (R := R) h2 h4
    exact h r q h1 h2 h3 h4 (by omega)
  · intro h r q h1 h2 h3 h4 h5
    exact h r q h1 h2 h3 h4 (by omega)
theorem ap_pd_all {L R : Nat → ln_V} {W : ln_P} : ap_pd p N T L R (ln_ct L N) 0 W ↔ ∀ r q, r < N → q < N → L r r ≠ 0 → R q q ≠ 0 → W (tt_bk p N T (L r) (R q)) := by
  constructor
  · intro h r q h1 h2 h3 h4
    exact h r q h1 h2 h3 h4 (Or.inl (ln_ct_lt (R := L) h1 h3))
  · intro h r q h1 h2 h3 h4 _
    exact h r q h1 h2 h3 h4
theorem ap_pd_none {L R : Nat → ln_V} {W : ln_P} : ap_pd p N T L R 0 0 W := fun r q h1 h2 h3 h4 h5 => by omega
set_option maxHeartbeats 1000000 in
theorem ap_A1_in (ht : tt_ok p N T) (hb : tt_br p N T br) (hn : n = N) {fL fR fS : Nat → Int} {zL zR zS : Int} (hL : sb_ok 5 N p fL zL) (hR : sb_ok 5 N p fR zR) (hS : sb_ok 5 N p fS zS) {a : Nat} {ai : Int} (ha : ai = a) (haL : a < ln_ct (sb_R 5 fL) N)
    (hQ : ∀ (f' : Nat → Int) (z' g : Int) (d1 d2 : pj_V), sb_ok 5 N p f' z' → (∀ W, ln_sub p N W → (ln_g N (sb_R 5 f') W ↔ ln_g N (sb_R 5 fS) W ∧ ap_pd p N T (sb_R 5 fL) (sb_R 5 fR) a (ln_ct (sb_R 5 fR) N) W)) → (g = 0 ∨ g = 1) → pj_WP X m_Spaces_addProducts 87 [.inr 0, .inr 3, .inr 5, .inr 7, .inl g, .inl zL, .inl zR, .inl ai, d1, d2] [] [.inr (4, [.inr 1, v_u, v_u, v_u]), c_T (.inl p) (.inl n) (.inr 2), c_A 25 br, c_S (.inl 5) (.inr 4) (.inl p) (.inl n) (.inl zL), c_A 30 fL, c_S (.inl 5) (.inr 6) (.inl p) (.inl n) (.inl zR), c_A 30 fR, c_S (.inl 5) (.inr 8) (.inl p) (.inl n) (.inl z'), c_A 30 f'] Q) :
    ∀ (m b : Nat) (f' : Nat → Int) (z' g bi : Int) (d : pj_V), b + m = ln_ct (sb_R 5 fR) N → bi = b → sb_ok 5 N p f' z' → (∀ W, ln_sub p N W → (ln_g N (sb_R 5 f') W ↔ ln_g N (sb_R 5 fS) W ∧ ap_pd p N T (sb_R 5 fL) (sb_R 5 fR) a b W)) → (g = 0 ∨ g = 1) → pj_WP X m_Spaces_addProducts 28 [.inr 0, .inr 3, .inr 5, .inr 7, .inl g, .inl zL, .inl zR, .inl ai, .inl bi, d] [] [.inr (4, [.inr 1, v_u, v_u, v_u]), c_T (.inl p) (.inl n) (.inr 2), c_A 25 br, c_S (.inl 5) (.inr 4) (.inl p) (.inl n) (.inl zL), c_A 30 fL, c_S (.inl 5) (.inr 6) (.inl p) (.inl n) (.inl zR), c_A 30 fR, c_S (.inl 5) (.inr 8) (.inl p) (.inl n) (.inl z'), c_A 30 f'] Q := by
  obtain ⟨hp, h1N, hN, hT, -⟩ := id ht
  obtain ⟨hp1, hp2, hp3⟩ := nn_p_pos hp
  have hcL := ln_ct_w (sb_R 5 fL) N
  have hcR := ln_ct_w (sb_R 5 fR) N
  have ezL := hL.2.2
  have ezR := hR.2.2
  intro m
  induction m with
  | zero =>
    intro b f' z' g bi d hk hbi hok hinv hg
    refine wp_b rfl (by omega) (fun c => ?_) (fun c => absurd c (by omega))
    rw [show b = ln_ct (sb_R 5 fR) N by omega] at hinv
    exact hQ f' z' g _ _ hok hinv hg
  | succ m ih =>
    intro b f' z' g bi d hk hbi hok hinv hg
    refine wp_b rfl (by omega) (fun c => absurd c (by omega)) (fun c => ?_)
    refine wp_c rfl (by omega) [3, 4] (c_vector (W := N) (I := a) hp hn hN ha (by omega) hL.1 (fun r hr hrl hrc => ?_) (fun h9 => absurd h9 (by omega))) rfl rfl rfl rfl
    refine wp_c rfl (by omega) [5, 6] (c_vector (W := N) (I := b) hp hn hN hbi (by omega) hR.1 (fun q hq hql hqc => ?_) (fun h9 => absurd h9 (by omega))) rfl rfl rfl rfl
    obtain ⟨n1, n2⟩ := nn_nm_row hp hL.1 hr hN
    obtain ⟨n3, n4⟩ := nn_nm_row hp hR.1 hq hN
    refine wp_h [.inr (4, [.inr 1, v_u, v_u, v_u]), c_T (.inl p) (.inl n) (.inr 2), c_A 25 br, c_S (.inl 5) (.inr 4) (.inl p) (.inl n) (.inl zL), c_A 30 fL, c_S (.inl 5) (.inr 6) (.inl p) (.inl n) (.inl zR), c_A 30 fR, c_S (.inl 5) (.inr 8) (.inl p) (.inl n) (.inl z'), c_A 30 f'] rfl ?_
    refine wp_c rfl (by omega) [1, 2] (c_product ht hb hn n1 n3 ?_) rfl rfl rfl rfl
    refine wp_h [.inr (4, [.inr 1, v_u, v_u, v_u]), c_T (.inl p) (.inl n) (.inr 2), c_A 25 br, c_S (.inl 5) (.inr 4) (.inl p) (.inl n) (.inl zL), c_A 30 fL, c_S (.inl 5) (.inr 6) (.inl p) (.inl n) (.inl zR), c_A 30 fR, c_S (.inl 5) (.inr 8) (.inl p) (.inl n) (.inl z'), c_A 30 f'] rfl ?_
    obtain ⟨n5, n6⟩ := tt_bk_num (T := T) hp hN (nn_dg p (nn_nm p N (sb_R 5 fL r))) (nn_dg p (nn_nm p N (sb_R 5 fR q)))
    refine wp_c rfl (by omega) [7, 8, 1] (c_join (W := N) hp hn hN n5 hok (fun f2 b2 hj hok2 => ?_)) rfl rfl rfl rfl
    have hinv2 : (∀ W, ln_sub p N W → (ln_g N (sb_R 5 f2) W ↔ ln_g N (sb_R 5 fS) W ∧ ap_pd p N T (sb_R 5 fL) (sb_R 5 fR) a (b + 1) W)) := by
      intro W hW
      rw [hj.2.1 W hW, hinv W hW, ap_pd_next hrl hql hr hq hrc hqc, and_assoc]
      have e : W (nn_dg p (nn_nm p N (tt_bk p N T (nn_dg p (nn_nm p N (sb_R 5 fL r))) (nn_dg p (nn_nm p N (sb_R 5 fR q)))))) ↔ W (tt_bk p N T (sb_R 5 fL r) (sb_R 5 fR q)) := by
        have e1 : ln_eq p N (nn_dg p (nn_nm p N (tt_bk p N T (nn_dg p (nn_nm p N (sb_R 5 fL r))) (nn_dg p (nn_nm p N (sb_R 5 fR q)))))) (tt_bk p N T (sb_R 5 fL r) (sb_R 5 fR q)) := fun c hc => by
          rw [n6 c hc]
          exact tt_bk_congr (fun i hi => by rw [n2 i hi]; exact nn_eq_rfl p _) (fun i hi => by rw [n4 i hi]; exact nn_eq_rfl p _) c
        exact ⟨fun h => hW.2.2.2 _ _ e1 h, fun h => hW.2.2.2 _ _ (ln_eq_symm e1) h⟩
      rw [e]
    cases b2 with
    | true =>
      refine wp_b rfl (by simp) (fun c => ?_) (fun c => absurd (show ¬ (1 : Int) = 0 by omega) c)
      refine wp_g rfl (by omega) ?_
      exact ih (b + 1) f2 _ _ _ _ (by omega) (by omega) hok2 hinv2 (Or.inr rfl)
    | false =>
      refine wp_b rfl (by simp) (fun c => absurd rfl c) (fun c => ?_)
      refine wp_b rfl (by omega) (fun c2 => ?_) (fun c2 => ?_)
      · refine wp_g rfl (by omega) ?_
        exact ih (b + 1) f2 _ _ _ _ (by omega) (by omega) hok2 hinv2 (Or.inl rfl)
      · refine wp_g rfl (by omega) ?_
        exact ih (b + 1) f2 _ _ _ _ (by omega) (by omega) hok2 hinv2 (Or.inr rfl)
set_option maxHeartbeats 1000000 in
theorem ap_A1_out (ht : tt_ok p N T) (hb : tt_br p N T br) (hn : n = N) {fL fR fS : Nat → Int} {zL zR zS : Int} (hL : sb_ok 5 N p fL zL) (hR : sb_ok 5 N p fR zR) (hS : sb_ok 5 N p fS zS) (hQ : ∀ (f' : Nat → Int) (z' g : Int), sb_ok 5 N p f' z' → (∀ W, ln_sub p N W → (ln_g N (sb_R 5 f') W ↔ ln_g N (sb_R 5 fS) W ∧ ∀ r q, r < N → q < N → sb_R 5 fL r r ≠ 0 → sb_R 5 fR q q ≠ 0 → W (tt_bk p N T (sb_R 5 fL r) (sb_R 5 fR q)))) → (g = 0 ∨ g = 1) → Q (some (.inl g)) [.inr (4, [.inr 1, v_u, v_u, v_u]), c_T (.inl p) (.inl n) (.inr 2), c_A 25 br, c_S (.inl 5) (.inr 4) (.inl p) (.inl n) (.inl zL), c_A 30 fL, c_S (.inl 5) (.inr 6) (.inl p) (.inl n) (.inl zR), c_A 30 fR, c_S (.inl 5) (.inr 8) (.inl p) (.inl n) (.inl z'), c_A 30 f']) :
    ∀ (m a : Nat) (f' : Nat → Int) (z' g ai : Int) (d1 d2 : pj_V), a + m = ln_ct (sb_R 5 fL) N → ai = a → sb_ok 5 N p f' z' → (∀ W, ln_sub p N W → (ln_g N (sb_R 5 f') W ↔ ln_g N (sb_R 5 fS) W ∧ ap_pd p N T (sb_R 5 fL) (sb_R 5 fR) a 0 W)) → (g = 0 ∨ g = 1) → pj_WP X m_Spaces_addProducts 18 [.inr 0, .inr 3, .inr 5, .inr 7, .inl g, .inl zL, .inl zR, .inl ai, d1, d2] [] [.inr (4, [.inr 1, v_u, v_u, v_u]), c_T (.inl p) (.inl n) (.inr 2), c_A 25 br, c_S (.inl 5) (.inr 4) (.inl p) (.inl n) (.inl zL), c_A 30 fL, c_S (.inl 5) (.inr 6) (.inl p) (.inl n) (.inl zR), c_A 30 fR, c_S (.inl 5) (.inr 8) (.inl p) (.inl n) (.inl z'), c_A 30 f'] Q := by
  obtain ⟨hp, h1N, hN, hT, -⟩ := id ht
  have hcL := ln_ct_w (sb_R 5 fL) N
  have hcR := ln_ct_w (sb_R 5 fR) N
  have ezL := hL.2.2
  have ezR := hR.2.2
  intro m
  induction m with
  | zero =>
    intro a f' z' g ai d1 d2 hk hai hok hinv hg
    refine wp_b rfl (by omega) (fun c => ?_) (fun c => absurd c (by omega))
    refine wp_r rfl (by omega) ?_
    rw [show a = ln_ct (sb_R 5 fL) N by omega] at hinv
    exact hQ f' z' g hok (fun W hW => by rw [hinv W hW, ap_pd_all]) hg
  | succ m ih =>
    intro a f' z' g ai d1 d2 hk hai hok hinv hg
    refine wp_b rfl (by omega) (fun c => absurd c (by omega)) (fun c => ?_)
    refine wp_g rfl (by omega) ?_
    refine ap_A1_in ht hb hn hL hR hS hai (by omega) (fun f2 z2 g2 e1 e2 hok2 hinv2 hg2 => ?_) (ln_ct (sb_R 5 fR) N) 0 f' z' g _ _ (by omega) (by omega) hok hinv hg
    refine wp_g rfl (by omega) ?_
    exact ih (a + 1) f2 z2 g2 _ _ _ (by omega) (by omega) hok2 (fun W hW => by rw [hinv2 W hW, ap_pd_row]) hg2
theorem c_addProducts_A1 (ht : tt_ok p N T) (hb : tt_br p N T br) (hn : n = N) {fL fR fS : Nat → Int} {zL zR zS : Int} (hL : sb_ok 5 N p fL zL) (hR : sb_ok 5 N p fR zR) (hS : sb_ok 5 N p fS zS) (hQ : ∀ (f' : Nat → Int) (z' g : Int), sb_ok 5 N p f' z' → (∀ W, ln_sub p N W → (ln_g N (sb_R 5 f') W ↔ ln_g N (sb_R 5 fS) W ∧ ∀ r q, r < N → q < N → sb_R 5 fL r r ≠ 0 → sb_R 5 fR q q ≠ 0 → W (tt_bk p N T (sb_R 5 fL r) (sb_R 5 fR q)))) → (g = 0 ∨ g = 1) → Q (some (.inl g)) [.inr (4, [.inr 1, v_u, v_u, v_u]), c_T (.inl p) (.inl n) (.inr 2), c_A 25 br, c_S (.inl 5) (.inr 4) (.inl p) (.inl n) (.inl zL), c_A 30 fL, c_S (.inl 5) (.inr 6) (.inl p) (.inl n) (.inl zR), c_A 30 fR, c_S (.inl 5) (.inr 8) (.inl p) (.inl n) (.inl z'), c_A 30 f']) : pj_ci X m_Spaces_addProducts [.inr 0, .inr 3, .inr 5, .inr 7] [.inr (4, [.inr 1, v_u, v_u, v_u]), c_T (.inl p) (.inl n) (.inr 2), c_A 25 br, c_S (.inl 5) (.inr 4) (.inl p) (.inl n) (.inl zL), c_A 30 fL, c_S (.inl 5) (.inr 6) (.inl p) (.inl n) (.inl zR), c_A 30 fR, c_S (.inl 5) (.inr 8) (.inl p) (.inl n) (.inl zS), c_A 30 fS] Q := by
  refine wp_g rfl (by omega) ?_
  exact ap_A1_out ht hb hn hL hR hS hQ (ln_ct (sb_R 5 fL) N) 0 fS zS _ _ _ _ (by omega) (by omega) hS (fun W hW => ⟨fun h => ⟨h, ap_pd_none⟩, fun h => h.1⟩) (Or.inl rfl)
set_option maxHeartbeats 1000000 in
theorem ap_A2_in (ht : tt_ok p N T) (hb : tt_br p N T br) (hn : n = N) {fR fS : Nat → Int} {zR zS : Int} (hR : sb_ok 5 N p fR zR) (hS : sb_ok 5 N p fS zS) {a : Nat} {ai : Int} (ha : ai = a) (haL : a < ln_ct (sb_R 5 fR) N)
    (hQ : ∀ (f' : Nat → Int) (z' g : Int) (d1 d2 : pj_V), sb_ok 5 N p f' z' → (∀ W, ln_sub p N W → (ln_g N (sb_R 5 f') W ↔ ln_g N (sb_R 5 fS) W ∧ ap_pd p N T (sb_R 5 fR) (sb_R 5 fR) a (ln_ct (sb_R 5 fR) N) W)) → (g = 0 ∨ g = 1) → pj_WP X m_Spaces_addProducts 87 [.inr 0, .inr 3, .inr 3, .inr 5, .inl g, .inl zR, .inl zR, .inl ai, d1, d2] [] [.inr (4, [.inr 1, v_u, v_u, v_u]), c_T (.inl p) (.inl n) (.inr 2), c_A 25 br, c_S (.inl 5) (.inr 4) (.inl p) (.inl n) (.inl zR), c_A 30 fR, c_S (.inl 5) (.inr 6) (.inl p) (.inl n) (.inl z'), c_A 30 f'] Q) :
    ∀ (m b : Nat) (f' : Nat → Int) (z' g bi : Int) (d : pj_V), b + m = ln_ct (sb_R 5 fR) N → bi = b → sb_ok 5 N p f' z' → (∀ W, ln_sub p N W → (ln_g N (sb_R 5 f') W ↔ ln_g N (sb_R 5 fS) W ∧ ap_pd p N T (sb_R 5 fR) (sb_R 5 fR) a b W)) → (g = 0 ∨ g = 1) → pj_WP X m_Spaces_addProducts 28 [.inr 0, .inr 3, .inr 3, .inr 5, .inl g, .inl zR, .inl zR, .inl ai, .inl bi, d] [] [.inr (4, [.inr 1, v_u, v_u, v_u]), c_T (.inl p) (.inl n) (.inr 2), c_A 25 br, c_S (.inl 5) (.inr 4) (.inl p) (.inl n) (.inl zR), c_A 30 fR, c_S (.inl 5) (.inr 6) (.inl p) (.inl n) (.inl z'), c_A 30 f'] Q := by
  obtain ⟨hp, h1N, hN, hT, -⟩ := id ht
  obtain ⟨hp1, hp2, hp3⟩ := nn_p_pos hp
  have hcL := ln_ct_w (sb_R 5 fR) N
  have hcR := ln_ct_w (sb_R 5 fR) N
  have ezL := hR.2.2
  have ezR := hR.2.2
  intro m
  induction m with
  | zero =>
    intro b f' z' g bi d hk hbi hok hinv hg
    refine wp_b rfl (by omega) (fun c => ?_) (fun c => absurd c (by omega))
    rw [show b = ln_ct (sb_R 5 fR) N by omega] at hinv
    exact hQ f' z' g _ _ hok hinv hg
  | succ m ih =>
    intro b f' z' g bi d hk hbi hok hinv hg
    refine wp_b rfl (by omega) (fun c => absurd c (by omega)) (fun c => ?_)
    refine wp_c rfl (by omega) [3, 4] (c_vector (W := N) (I := a) hp hn hN ha (by omega) hR.1 (fun r hr hrl hrc => ?_) (fun h9 => absurd h9 (by omega))) rfl rfl rfl rfl
    refine wp_c rfl (by omega) [3, 4] (c_vector (W := N) (I := b) hp hn hN hbi (by omega) hR.1 (fun q hq hql hqc => ?_) (fun h9 => absurd h9 (by omega))) rfl rfl rfl rfl
    obtain ⟨n1, n2⟩ := nn_nm_row hp hR.1 hr hN
    obtain ⟨n3, n4⟩ := nn_nm_row hp hR.1 hq hN
    refine wp_h [.inr (4, [.inr 1, v_u, v_u, v_u]), c_T (.inl p) (.inl n) (.inr 2), c_A 25 br, c_S (.inl 5) (.inr 4) (.inl p) (.inl n) (.inl zR), c_A 30 fR, c_S (.inl 5) (.inr 6) (.inl p) (.inl n) (.inl z'), c_A 30 f'] rfl ?_
    refine wp_c rfl (by omega) [1, 2] (c_product ht hb hn n1 n3 ?_) rfl rfl rfl rfl
    refine wp_h [.inr (4, [.inr 1, v_u, v_u, v_u]), c_T (.inl p) (.inl n) (.inr 2), c_A 25 br, c_S (.inl 5) (.inr 4) (.inl p) (.inl n) (.inl zR), c_A 30 fR, c_S (.inl 5) (.inr 6) (.inl p) (.inl n) (.inl z'), c_A 30 f'] rfl ?_
    obtain ⟨n5, n6⟩ := tt_bk_num (T := T) hp hN (nn_dg p (nn_nm p N (sb_R 5 fR r))) (nn_dg p (nn_nm p N (sb_R 5 fR q)))
    refine wp_c rfl (by omega) [5, 6, 1] (c_join (W := N) hp hn hN n5 hok (fun f2 b2 hj hok2 => ?_)) rfl rfl rfl rfl
    have hinv2 : (∀ W, ln_sub p N W → (ln_g N (sb_R 5 f2) W ↔ ln_g N (sb_R 5 fS) W ∧ ap_pd p N T (sb_R 5 fR) (sb_R 5 fR) a (b + 1) W)) := by
      intro W hW
      rw [hj.2.1 W hW, hinv W hW, ap_pd_next hrl hql hr hq hrc hqc, and_assoc]
      have e : W (nn_dg p (nn_nm p N (tt_bk p N T (nn_dg p (nn_nm p N (sb_R 5 fR r))) (nn_dg p (nn_nm p N (sb_R 5 fR q)))))) ↔ W (tt_bk p N T (sb_R 5 fR r) (sb_R 5 fR q)) := by
        have e1 : ln_eq p N (nn_dg p (nn_nm p N (tt_bk p N T (nn_dg p (nn_nm p N (sb_R 5 fR r))) (nn_dg p (nn_nm p N (sb_R 5 fR q)))))) (tt_bk p N T (sb_R 5 fR r) (sb_R 5 fR q)) := fun c hc => by
          rw [n6 c hc]
          exact tt_bk_congr (fun i hi => by rw [n2 i hi]; exact nn_eq_rfl p _) (fun i hi => by rw [n4 i hi]; exact nn_eq_rfl p _) c
        exact ⟨fun h => hW.2.2.2 _ _ e1 h, fun h => hW.2.2.2 _ _ (ln_eq_symm e1) h⟩
      rw [e]
    cases b2 with
    | true =>
      refine wp_b rfl (by simp) (fun c => ?_) (fun c => absurd (show ¬ (1 : Int) = 0 by omega) c)
      refine wp_g rfl (by omega) ?_
      exact ih (b + 1) f2 _ _ _ _ (by omega) (by omega) hok2 hinv2 (Or.inr rfl)
    | false =>
      refine wp_b rfl (by simp) (fun c => absurd rfl c) (fun c => ?_)
      refine wp_b rfl (by omega) (fun c2 => ?_) (fun c2 => ?_)
      · refine wp_g rfl (by omega) ?_
        exact ih (b + 1) f2 _ _ _ _ (by omega) (by omega) hok2 hinv2 (Or.inl rfl)
      · refine wp_g rfl (by omega) ?_
        exact ih (b + 1) f2 _ _ _ _ (by omega) (by omega) hok2 hinv2 (Or.inr rfl)
set_option maxHeartbeats 1000000 in
theorem ap_A2_out (ht : tt_ok p N T) (hb : tt_br p N T br) (hn : n = N) {fR fS : Nat → Int} {zR zS : Int} (hR : sb_ok 5 N p fR zR) (hS : sb_ok 5 N p fS zS) (hQ : ∀ (f' : Nat → Int) (z' g : Int), sb_ok 5 N p f' z' → (∀ W, ln_sub p N W → (ln_g N (sb_R 5 f') W ↔ ln_g N (sb_R 5 fS) W ∧ ∀ r q, r < N → q < N → sb_R 5 fR r r ≠ 0 → sb_R 5 fR q q ≠ 0 → W (tt_bk p N T (sb_R 5 fR r) (sb_R 5 fR q)))) → (g = 0 ∨ g = 1) → Q (some (.inl g)) [.inr (4, [.inr 1, v_u, v_u, v_u]), c_T (.inl p) (.inl n) (.inr 2), c_A 25 br, c_S (.inl 5) (.inr 4) (.inl p) (.inl n) (.inl zR), c_A 30 fR, c_S (.inl 5) (.inr 6) (.inl p) (.inl n) (.inl z'), c_A 30 f']) :
    ∀ (m a : Nat) (f' : Nat → Int) (z' g ai : Int) (d1 d2 : pj_V), a + m = ln_ct (sb_R 5 fR) N → ai = a → sb_ok 5 N p f' z' → (∀ W, ln_sub p N W → (ln_g N (sb_R 5 f') W ↔ ln_g N (sb_R 5 fS) W ∧ ap_pd p N T (sb_R 5 fR) (sb_R 5 fR) a 0 W)) → (g = 0 ∨ g = 1) → pj_WP X m_Spaces_addProducts 18 [.inr 0, .inr 3, .inr 3, .inr 5, .inl g, .inl zR, .inl zR, .inl ai, d1, d2] [] [.inr (4, [.inr 1, v_u, v_u, v_u]), c_T (.inl p) (.inl n) (.inr 2), c_A 25 br, c_S (.inl 5) (.inr 4) (.inl p) (.inl n) (.inl zR), c_A 30 fR, c_S (.inl 5) (.inr 6) (.inl p) (.inl n) (.inl z'), c_A 30 f'] Q := by
  obtain ⟨hp, h1N, hN, hT, -⟩ := id ht
  have hcL := ln_ct_w (sb_R 5 fR) N
  have hcR := ln_ct_w (sb_R 5 fR) N
  have ezL := hR.2.2
  have ezR := hR.2.2
  intro m
  induction m with
  | zero =>
    intro a f' z' g ai d1 d2 hk hai hok hinv hg
    refine wp_b rfl (by omega) (fun c => ?_) (fun c => absurd c (by omega))
    refine wp_r rfl (by omega) ?_
    rw [show a = ln_ct (sb_R 5 fR) N by omega] at hinv
    exact hQ f' z' g hok (fun W hW => by rw [hinv W hW, ap_pd_all]) hg
  | succ m ih =>
    intro a f' z' g ai d1 d2 hk hai hok hinv hg
    refine wp_b rfl (by omega) (fun c => absurd c (by omega)) (fun c => ?_)
    refine wp_g rfl (by omega) ?_
    refine ap_A2_in ht hb hn hR hS hai (by omega) (fun f2 z2 g2 e1 e2 hok2 hinv2 hg2 => ?_) (ln_ct (sb_R 5 fR) N) 0 f' z' g _ _ (by omega) (by omega) hok hinv hg
    refine wp_g rfl (by omega) ?_
    exact ih (a + 1) f2 z2 g2 _ _ _ (by omega) (by omega) hok2 (fun W hW => by rw [hinv2 W hW, ap_pd_row]) hg2
theorem c_addProducts_A2 (ht : tt_ok p N T) (hb : tt_br p N T br) (hn : n = N) {fR fS : Nat → Int} {zR zS : Int} (hR : sb_ok 5 N p fR zR) (hS : sb_ok 5 N p fS zS) (hQ : ∀ (f' : Nat → Int) (z' g : Int), sb_ok 5 N p f' z' → (∀ W, ln_sub p N W → (ln_g N (sb_R 5 f') W ↔ ln_g N (sb_R 5 fS) W ∧ ∀ r q, r < N → q < N → sb_R 5 fR r r ≠ 0 → sb_R 5 fR q q ≠ 0 → W (tt_bk p N T (sb_R 5 fR r) (sb_R 5 fR q)))) → (g = 0 ∨ g = 1) → Q (some (.inl g)) [.inr (4, [.inr 1, v_u, v_u, v_u]), c_T (.inl p) (.inl n) (.inr 2), c_A 25 br, c_S (.inl 5) (.inr 4) (.inl p) (.inl n) (.inl zR), c_A 30 fR, c_S (.inl 5) (.inr 6) (.inl p) (.inl n) (.inl z'), c_A 30 f']) : pj_ci X m_Spaces_addProducts [.inr 0, .inr 3, .inr 3, .inr 5] [.inr (4, [.inr 1, v_u, v_u, v_u]), c_T (.inl p) (.inl n) (.inr 2), c_A 25 br, c_S (.inl 5) (.inr 4) (.inl p) (.inl n) (.inl zR), c_A 30 fR, c_S (.inl 5) (.inr 6) (.inl p) (.inl n) (.inl zS), c_A 30 fS] Q := by
  refine wp_g rfl (by omega) ?_
  exact ap_A2_out ht hb hn hR hS hQ (ln_ct (sb_R 5 fR) N) 0 fS zS _ _ _ _ (by omega) (by omega) hS (fun W hW => ⟨fun h => ⟨h, ap_pd_none⟩, fun h => h.1⟩) (Or.inl rfl)
set_option maxHeartbeats 1000000 in
theorem ap_B1_in (ht : tt_ok p N T) (hb : tt_br p N T br) (hn : n = N) {fL fS : Nat → Int} {zL zS : Int} (hL : sb_ok 5 N p fL zL) (hS : sb_ok 5 N p fS zS) {a : Nat} {ai : Int} (ha : ai = a) (haL : a < ln_ct (sb_R 5 fL) N)
    (hQ : ∀ (f' : Nat → Int) (z' g : Int) (d1 d2 : pj_V), sb_ok 5 N p f' z' → ((∀ x, ln_in p N (sb_R 5 fS) x → ln_in p N (sb_R 5 f') x) ∧ (∀ K, ln_sub p N K → ln_g N (sb_R 5 fS) K → (∀ u v, ln_in p N (sb_R 5 fL) u → K v → K (tt_bk p N T u v)) → ln_g N (sb_R 5 f') K) ∧ ((g = 0 ∧ (∀ r c, r < N → c < N → sb_R 5 f' r c = sb_R 5 fS r c) ∧ ap_pd p N T (sb_R 5 fL) (sb_R 5 fS) a (ln_ct (sb_R 5 fS) N) (ln_in p N (sb_R 5 fS))) ∨ (g = 1 ∧ ln_ct (sb_R 5 fS) N < ln_ct (sb_R 5 f') N))) → pj_WP X m_Spaces_addProducts 87 [.inr 0, .inr 3, .inr 5, .inr 5, .inl g, .inl zL, .inl zS, .inl ai, d1, d2] [] [.inr (4, [.inr 1, v_u, v_u, v_u]), c_T (.inl p) (.inl n) (.inr 2), c_A 25 br, c_S (.inl 5) (.inr 4) (.inl p) (.inl n) (.inl zL), c_A 30 fL, c_S (.inl 5) (.inr 6) (.inl p) (.inl n) (.inl z'), c_A 30 f'] Q) :
    ∀ (m b : Nat) (f' : Nat → Int) (z' g bi : Int) (d : pj_V), b + m = ln_ct (sb_R 5 fS) N → bi = b → sb_ok 5 N p f' z' → ((∀ x, ln_in p N (sb_R 5 fS) x → ln_in p N (sb_R 5 f') x) ∧ (∀ K, ln_sub p N K → ln_g N (sb_R 5 fS) K → (∀ u v, ln_in p N (sb_R 5 fL) u → K v → K (tt_bk p N T u v)) → ln_g N (sb_R 5 f') K) ∧ ((g = 0 ∧ (∀ r c, r < N → c < N → sb_R 5 f' r c = sb_R 5 fS r c) ∧ ap_pd p N T (sb_R 5 fL) (sb_R 5 fS) a b (ln_in p N (sb_R 5 fS))) ∨ (g = 1 ∧ ln_ct (sb_R 5 fS) N < ln_ct (sb_R 5 f') N))) → pj_WP X m_Spaces_addProducts 28 [.inr 0, .inr 3, .inr 5, .inr 5, .inl g, .inl zL, .inl zS, .inl ai, .inl bi, d] [] [.inr (4, [.inr 1, v_u, v_u, v_u]), c_T (.inl p) (.inl n) (.inr 2), c_A 25 br, c_S (.inl 5) (.inr 4) (.inl p) (.inl n) (.inl zL), c_A 30 fL, c_S (.inl 5) (.inr 6) (.inl p) (.inl n) (.inl z'), c_A 30 f'] Q := by
  obtain ⟨hp, h1N, hN, hT, -⟩ := id ht
  obtain ⟨hp1, hp2, hp3⟩ := nn_p_pos hp
  have hcL := ln_ct_w (sb_R 5 fL) N
  have hcR := ln_ct_w (sb_R 5 fS) N
  have ezL := hL.2.2
  have ezR := hS.2.2
  intro m
  induction m with
  | zero =>
    intro b f' z' g bi d hk hbi hok hinv
    refine wp_b rfl (by omega) (fun c => ?_) (fun c => absurd c (by omega))
    rw [show b = ln_ct (sb_R 5 fS) N by omega] at hinv
    exact hQ f' z' g _ _ hok hinv
  | succ m ih =>
    intro b f' z' g bi d hk hbi hok hinv
    have hle := (ln_dim hS.1 hok.1 (by omega) hinv.1).1
    refine wp_b rfl (by omega) (fun c => absurd c (by omega)) (fun c => ?_)
    refine wp_c rfl (by omega) [3, 4] (c_vector (W := N) (I := a) hp hn hN ha (by omega) hL.1 (fun r hr hrl hrc => ?_) (fun h9 => absurd h9 (by omega))) rfl rfl rfl rfl
    refine wp_c rfl (by omega) [5, 6] (c_vector (W := N) (I := b) hp hn hN hbi (by omega) hok.1 (fun q hq hql hqc => ?_) (fun h9 => absurd h9 (by omega))) rfl rfl rfl rfl
    obtain ⟨n1, n2⟩ := nn_nm_row hp hL.1 hr hN
    obtain ⟨n3, n4⟩ := nn_nm_row hp hok.1 hq hN
    refine wp_h [.inr (4, [.inr 1, v_u, v_u, v_u]), c_T (.inl p) (.inl n) (.inr 2), c_A 25 br, c_S (.inl 5) (.inr 4) (.inl p) (.inl n) (.inl zL), c_A 30 fL, c_S (.inl 5) (.inr 6) (.inl p) (.inl n) (.inl z'), c_A 30 f'] rfl ?_
    refine wp_c rfl (by omega) [1, 2] (c_product ht hb hn n1 n3 ?_) rfl rfl rfl rfl
    refine wp_h [.inr (4, [.inr 1, v_u, v_u, v_u]), c_T (.inl p) (.inl n) (.inr 2), c_A 25 br, c_S (.inl 5) (.inr 4) (.inl p) (.inl n) (.inl zL), c_A 30 fL, c_S (.inl 5) (.inr 6) (.inl p) (.inl n) (.inl z'), c_A 30 f'] rfl ?_
    obtain ⟨n5, n6⟩ := tt_bk_num (T := T) hp hN (nn_dg p (nn_nm p N (sb_R 5 fL r))) (nn_dg p (nn_nm p N (sb_R 5 f' q)))
    refine wp_c rfl (by omega) [5, 6, 1] (c_join (W := N) hp hn hN n5 hok (fun f2 b2 hj hok2 => ?_)) rfl rfl rfl rfl
    have e1 : ln_eq p N (nn_dg p (nn_nm p N (tt_bk p N T (nn_dg p (nn_nm p N (sb_R 5 fL r))) (nn_dg p (nn_nm p N (sb_R 5 f' q)))))) (tt_bk p N T (sb_R 5 fL r) (sb_R 5 f' q)) := fun c hc => by
      rw [n6 c hc]
      exact tt_bk_congr (fun i hi => by rw [n2 i hi]; exact nn_eq_rfl p _) (fun i hi => by rw [n4 i hi]; exact nn_eq_rfl p _) c
    have hin1 := fun x hx => (ln_join_in hj).2 x (hinv.1 x hx)
    have hin2 : ∀ K, ln_sub p N K → ln_g N (sb_R 5 fS) K → (∀ u v, ln_in p N (sb_R 5 fL) u → K v → K (tt_bk p N T u v)) → ln_g N (sb_R 5 f2) K := fun K hK hg hcl => by
      have hK2 := hinv.2.1 K hK hg hcl
      exact (hj.2.1 K hK).mpr ⟨hK2, hK.2.2.2 _ _ (ln_eq_symm e1) (hcl _ _ (ln_in_row hL.1 hr) (hK2 q hq))⟩
    cases b2 with
    | true =>
      have hct : ln_ct (sb_R 5 fS) N < ln_ct (sb_R 5 f2) N := by
        have := hj.2.2.1
        simp only [if_true] at this
        omega
      refine wp_b rfl (by simp) (fun c => ?_) (fun c => absurd (show ¬ (1 : Int) = 0 by omega) c)
      refine wp_g rfl (by omega) ?_
      exact ih (b + 1) f2 _ _ _ _ (by omega) (by omega) hok2 ⟨hin1, hin2, Or.inr ⟨rfl, hct⟩⟩
    | false =>
      have hsame := hj.2.2.2.2 rfl
      have hct2 : ln_ct (sb_R 5 f2) N = ln_ct (sb_R 5 f') N := ln_ct_congr N (fun r hr => by rw [hsame r r hr hr])
      refine wp_b rfl (by simp) (fun c => absurd rfl c) (fun c => ?_)
      rcases hinv.2.2 with ⟨hg0, hs0, hpd⟩ | ⟨hg1, hct⟩
      · subst hg0
        refine wp_b rfl (by omega) (fun c2 => ?_) (fun c2 => absurd rfl c2)
        refine wp_g rfl (by omega) ?_
        refine ih (b + 1) f2 _ _ _ _ (by omega) (by omega) hok2 ⟨hin1, hin2, Or.inl ⟨rfl, fun r c hr hc => (hsame r c hr hc).trans (hs0 r c hr hc), ?_⟩⟩
        have hmem : ln_in p N (sb_R 5 f') (nn_dg p (nn_nm p N (tt_bk p N T (nn_dg p (nn_nm p N (sb_R 5 fL r))) (nn_dg p (nn_nm p N (sb_R 5 f' q)))))) := Classical.byContradiction fun z => by
          have := hj.2.2.2.1.mpr z
          cases this
        have ctS : ∀ k, k < N → ln_ct (sb_R 5 f') k = ln_ct (sb_R 5 fS) k := fun k hk => ln_ct_congr k (fun r hr => by rw [hs0 r r (by omega) (by omega)])
        refine (ap_pd_next (r0 := r) (q0 := q) hrl (by rw [← hs0 q q hq hq]; exact hql) hr hq hrc (by rw [← ctS q hq]; exact hqc)).mpr ⟨hpd, ?_⟩
        have h3 := (ln_in_congr hs0).mp hmem
        refine (ln_in_sub _).2.2.2 _ _ (ln_eq_trans e1 (fun c hc => tt_bk_congr (ln_eq_rfl _) (fun i hi => by rw [hs0 q i hq hi]; exact nn_eq_rfl p _) c)) h3
      · subst hg1
        refine wp_b rfl (by omega) (fun c2 => absurd c2 (show ¬ (1 : Int) = 0 by omega)) (fun c2 => ?_)
        refine wp_g rfl (by omega) ?_
        exact ih (b + 1) f2 _ _ _ _ (by omega) (by omega) hok2 ⟨hin1, hin2, Or.inr ⟨rfl, by omega⟩⟩
set_option maxHeartbeats 1000000 in
theorem ap_B1_out (ht : tt_ok p N T) (hb : tt_br p N T br) (hn : n = N) {fL fS : Nat → Int} {zL zS : Int} (hL : sb_ok 5 N p fL zL) (hS : sb_ok 5 N p fS zS) (hQ : ∀ (f' : Nat → Int) (z' g : Int), sb_ok 5 N p f' z' → (∀ x, ln_in p N (sb_R 5 fS) x → ln_in p N (sb_R 5 f') x) → (∀ K, ln_sub p N K → ln_g N (sb_R 5 fS) K → (∀ u v, ln_in p N (sb_R 5 fL) u → K v → K (tt_bk p N T u v)) → ln_g N (sb_R 5 f') K) → ((g = 0 ∧ (∀ r c, r < N → c < N → sb_R 5 f' r c = sb_R 5 fS r c) ∧ ∀ u v, ln_in p N (sb_R 5 fL) u → ln_in p N (sb_R 5 fS) v → ln_in p N (sb_R 5 fS) (tt_bk p N T u v)) ∨ (g = 1 ∧ ln_ct (sb_R 5 fS) N < ln_ct (sb_R 5 f') N)) → Q (some (.inl g)) [.inr (4, [.inr 1, v_u, v_u, v_u]), c_T (.inl p) (.inl n) (.inr 2), c_A 25 br, c_S (.inl 5) (.inr 4) (.inl p) (.inl n) (.inl zL), c_A 30 fL, c_S (.inl 5) (.inr 6) (.inl p) (.inl n) (.inl z'), c_A 30 f']) :
    ∀ (m a : Nat) (f' : Nat → Int) (z' g ai : Int) (d1 d2 : pj_V), a + m = ln_ct (sb_R 5 fL) N → ai = a → sb_ok 5 N p f' z' → ((∀ x, ln_in p N (sb_R 5 fS) x → ln_in p N (sb_R 5 f') x) ∧ (∀ K, ln_sub p N K → ln_g N (sb_R 5 fS) K → (∀ u v, ln_in p N (sb_R 5 fL) u → K v → K (tt_bk p N T u v)) → ln_g N (sb_R 5 f') K) ∧ ((g = 0 ∧ (∀ r c, r < N → c < N → sb_R 5 f' r c = sb_R 5 fS r c) ∧ ap_pd p N T (sb_R 5 fL) (sb_R 5 fS) a 0 (ln_in p N (sb_R 5 fS))) ∨ (g = 1 ∧ ln_ct (sb_R 5 fS) N < ln_ct (sb_R 5 f') N))) → pj_WP X m_Spaces_addProducts 18 [.inr 0, .inr 3, .inr 5, .inr 5, .inl g, .inl zL, .inl zS, .inl ai, d1, d2] [] [.inr (4, [.inr 1, v_u, v_u, v_u]), c_T (.inl p) (.inl n) (.inr 2), c_A 25 br, c_S (.inl 5) (.inr 4) (.inl p) (.inl n) (.inl zL), c_A 30 fL, c_S (.inl 5) (.inr 6) (.inl p) (.inl n) (.inl z'), c_A 30 f'] Q := by
  obtain ⟨hp, h1N, hN, hT, -⟩ := id ht
  have hcL := ln_ct_w (sb_R 5 fL) N
  have hcR := ln_ct_w (sb_R 5 fS) N
  have ezL := hL.2.2
  have ezR := hS.2.2
  intro m
  induction m with
  | zero =>
    intro a f' z' g ai d1 d2 hk hai hok hinv
    have hg : g = 0 ∨ g = 1 := hinv.2.2.imp (fun h => h.1) (fun h => h.1)
    refine wp_b rfl (by omega) (fun c => ?_) (fun c => absurd c (by omega))
    refine wp_r rfl (by omega) ?_
    rw [show a = ln_ct (sb_R 5 fL) N by omega] at hinv
    exact hQ f' z' g hok hinv.1 hinv.2.1 (hinv.2.2.imp (fun h => ⟨h.1, h.2.1, fun u v hu hv => tt_bil (ln_in_sub _) hL.1 hS.1 (ap_pd_all.mp h.2.2) hu hv⟩) id)
  | succ m ih =>
    intro a f' z' g ai d1 d2 hk hai hok hinv
    refine wp_b rfl (by omega) (fun c => absurd c (by omega)) (fun c => ?_)
    refine wp_g rfl (by omega) ?_
    refine ap_B1_in ht hb hn hL hS hai (by omega) (fun f2 z2 g2 e1 e2 hok2 hinv2 => ?_) (ln_ct (sb_R 5 fS) N) 0 f' z' g _ _ (by omega) (by omega) hok hinv
    refine wp_g rfl (by omega) ?_
    exact ih (a + 1) f2 z2 g2 _ _ _ (by omega) (by omega) hok2 ⟨hinv2.1, hinv2.2.1, hinv2.2.2.imp (fun h => ⟨h.1, h.2.1, ap_pd_row.mp h.2.2⟩) id⟩
theorem c_addProducts_B1 (ht : tt_ok p N T) (hb : tt_br p N T br) (hn : n = N) {fL fS : Nat → Int} {zL zS : Int} (hL : sb_ok 5 N p fL zL) (hS : sb_ok 5 N p fS zS) (hQ : ∀ (f' : Nat → Int) (z' g : Int), sb_ok 5 N p f' z' → (∀ x, ln_in p N (sb_R 5 fS) x → ln_in p N (sb_R 5 f') x) → (∀ K, ln_sub p N K → ln_g N (sb_R 5 fS) K → (∀ u v, ln_in p N (sb_R 5 fL) u → K v → K (tt_bk p N T u v)) → ln_g N (sb_R 5 f') K) → ((g = 0 ∧ (∀ r c, r < N → c < N → sb_R 5 f' r c = sb_R 5 fS r c) ∧ ∀ u v, ln_in p N (sb_R 5 fL) u → ln_in p N (sb_R 5 fS) v → ln_in p N (sb_R 5 fS) (tt_bk p N T u v)) ∨ (g = 1 ∧ ln_ct (sb_R 5 fS) N < ln_ct (sb_R 5 f') N)) → Q (some (.inl g)) [.inr (4, [.inr 1, v_u, v_u, v_u]), c_T (.inl p) (.inl n) (.inr 2), c_A 25 br, c_S (.inl 5) (.inr 4) (.inl p) (.inl n) (.inl zL), c_A 30 fL, c_S (.inl 5) (.inr 6) (.inl p) (.inl n) (.inl z'), c_A 30 f']) : pj_ci X m_Spaces_addProducts [.inr 0, .inr 3, .inr 5, .inr 5] [.inr (4, [.inr 1, v_u, v_u, v_u]), c_T (.inl p) (.inl n) (.inr 2), c_A 25 br, c_S (.inl 5) (.inr 4) (.inl p) (.inl n) (.inl zL), c_A 30 fL, c_S (.inl 5) (.inr 6) (.inl p) (.inl n) (.inl zS), c_A 30 fS] Q := by
  refine wp_g rfl (by omega) ?_
  exact ap_B1_out ht hb hn hL hS hQ (ln_ct (sb_R 5 fL) N) 0 fS zS _ _ _ _ (by omega) (by omega) hS ⟨fun x hx => hx, fun K hK hg _ => hg, Or.inl ⟨rfl, fun _ _ _ _ => rfl, ap_pd_none⟩⟩
set_option maxHeartbeats 1000000 in
theorem ap_B2_in (ht : tt_ok p N T) (hb : tt_br p N T br) (hn : n = N) {fS : Nat → Int} {zS : Int} (hS : sb_ok 5 N p fS zS) {a : Nat} {ai : Int} (ha : ai = a) (haL : a < ln_ct (sb_R 5 fS) N)
    (hQ : ∀ (f' : Nat → Int) (z' g : Int) (d1 d2 : pj_V), sb_ok 5 N p f' z' → ((∀ x, ln_in p N (sb_R 5 fS) x → ln_in p N (sb_R 5 f') x) ∧ (∀ K, ln_sub p N K → ln_g N (sb_R 5 fS) K → (∀ u v, K u → K v → K (tt_bk p N T u v)) → ln_g N (sb_R 5 f') K) ∧ ((g = 0 ∧ (∀ r c, r < N → c < N → sb_R 5 f' r c = sb_R 5 fS r c) ∧ ap_pd p N T (sb_R 5 fS) (sb_R 5 fS) a (ln_ct (sb_R 5 fS) N) (ln_in p N (sb_R 5 fS))) ∨ (g = 1 ∧ ln_ct (sb_R 5 fS) N < ln_ct (sb_R 5 f') N))) → pj_WP X m_Spaces_addProducts 87 [.inr 0, .inr 3, .inr 3, .inr 3, .inl g, .inl zS, .inl zS, .inl ai, d1, d2] [] [.inr (4, [.inr 1, v_u, v_u, v_u]), c_T (.inl p) (.inl n) (.inr 2), c_A 25 br, c_S (.inl 5) (.inr 4) (.inl p) (.inl n) (.inl z'), c_A 30 f'] Q) :
    ∀ (m b : Nat) (f' : Nat → Int) (z' g bi : Int) (d : pj_V), b + m = ln_ct (sb_R 5 fS) N → bi = b → sb_ok 5 N p f' z' → ((∀ x, ln_in p N (sb_R 5 fS) x → ln_in p N (sb_R 5 f') x) ∧ (∀ K, ln_sub p N K → ln_g N (sb_R 5 fS) K → (∀ u v, K u → K v → K (tt_bk p N T u v)) → ln_g N (sb_R 5 f') K) ∧ ((g = 0 ∧ (∀ r c, r < N → c < N → sb_R 5 f' r c = sb_R 5 fS r c) ∧ ap_pd p N T (sb_R 5 fS) (sb_R 5 fS) a b (ln_in p N (sb_R 5 fS))) ∨ (g = 1 ∧ ln_ct (sb_R 5 fS) N < ln_ct (sb_R 5 f') N))) → pj_WP X m_Spaces_addProducts 28 [.inr 0, .inr 3, .inr 3, .inr 3, .inl g, .inl zS, .inl zS, .inl ai, .inl bi, d] [] [.inr (4, [.inr 1, v_u, v_u, v_u]), c_T (.inl p) (.inl n) (.inr 2), c_A 25 br, c_S (.inl 5) (.inr 4) (.inl p) (.inl n) (.inl z'), c_A 30 f'] Q := by
  obtain ⟨hp, h1N, hN, hT, -⟩ := id ht
  obtain ⟨hp1, hp2, hp3⟩ := nn_p_pos hp
  have hcL := ln_ct_w (sb_R 5 fS) N
  have hcR := ln_ct_w (sb_R 5 fS) N
  have ezL := hS.2.2
  have ezR := hS.2.2
  intro m
  induction m with
  | zero =>
    intro b f' z' g bi d hk hbi hok hinv
    refine wp_b rfl (by omega) (fun c => ?_) (fun c => absurd c (by omega))
    rw [show b = ln_ct (sb_R 5 fS) N by omega] at hinv
    exact hQ f' z' g _ _ hok hinv
  | succ m ih =>
    intro b f' z' g bi d hk hbi hok hinv
    have hle := (ln_dim hS.1 hok.1 (by omega) hinv.1).1
    refine wp_b rfl (by omega) (fun c => absurd c (by omega)) (fun c => ?_)
    refine wp_c rfl (by omega) [3, 4] (c_vector (W := N) (I := a) hp hn hN ha (by omega) hok.1 (fun r hr hrl hrc => ?_) (fun h9 => absurd h9 (by omega))) rfl rfl rfl rfl
    refine wp_c rfl (by omega) [3, 4] (c_vector (W := N) (I := b) hp hn hN hbi (by omega) hok.1 (fun q hq hql hqc => ?_) (fun h9 => absurd h9 (by omega))) rfl rfl rfl rfl
    obtain ⟨n1, n2⟩ := nn_nm_row hp hok.1 hr hN
    obtain ⟨n3, n4⟩ := nn_nm_row hp hok.1 hq hN
    refine wp_h [.inr (4, [.inr 1, v_u, v_u, v_u]), c_T (.inl p) (.inl n) (.inr 2), c_A 25 br, c_S (.inl 5) (.inr 4) (.inl p) (.inl n) (.inl z'), c_A 30 f'] rfl ?_
    refine wp_c rfl (by omega) [1, 2] (c_product ht hb hn n1 n3 ?_) rfl rfl rfl rfl
    refine wp_h [.inr (4, [.inr 1, v_u, v_u, v_u]), c_T (.inl p) (.inl n) (.inr 2), c_A 25 br, c_S (.inl 5) (.inr 4) (.inl p) (.inl n) (.inl z'), c_A 30 f'] rfl ?_
    obtain ⟨n5, n6⟩ := tt_bk_num (T := T) hp hN (nn_dg p (nn_nm p N (sb_R 5 f' r))) (nn_dg p (nn_nm p N (sb_R 5 f' q)))
    refine wp_c rfl (by omega) [3, 4, 1] (c_join (W := N) hp hn hN n5 hok (fun f2 b2 hj hok2 => ?_)) rfl rfl rfl rfl
    have e1 : ln_eq p N (nn_dg p (nn_nm p N (tt_bk p N T (nn_dg p (nn_nm p N (sb_R 5 f' r))) (nn_dg p (nn_nm p N (sb_R 5 f' q)))))) (tt_bk p N T (sb_R 5 f' r) (sb_R 5 f' q)) := fun c hc => by
      rw [n6 c hc]
      exact tt_bk_congr (fun i hi => by rw [n2 i hi]; exact nn_eq_rfl p _) (fun i hi => by rw [n4 i hi]; exact nn_eq_rfl p _) c
    have hin1 := fun x hx => (ln_join_in hj).2 x (hinv.1 x hx)
    have hin2 : ∀ K, ln_sub p N K → ln_g N (sb_R 5 fS) K → (∀ u v, K u → K v → K (tt_bk p N T u v)) → ln_g N (sb_R 5 f2) K := fun K hK hg hcl => by
      have hK2 := hinv.2.1 K hK hg hcl
      exact (hj.2.1 K hK).mpr ⟨hK2, hK.2.2.2 _ _ (ln_eq_symm e1) (hcl _ _ ((hK2 r hr)) (hK2 q hq))⟩
    cases b2 with
    | true =>
      have hct : ln_ct (sb_R 5 fS) N < ln_ct (sb_R 5 f2) N := by
        have := hj.2.2.1
        simp only [if_true] at this
        omega
      refine wp_b rfl (by simp) (fun c => ?_) (fun c => absurd (show ¬ (1 : Int) = 0 by omega) c)
      refine wp_g rfl (by omega) ?_
      exact ih (b + 1) f2 _ _ _ _ (by omega) (by omega) hok2 ⟨hin1, hin2, Or.inr ⟨rfl, hct⟩⟩
    | false =>
      have hsame := hj.2.2.2.2 rfl
      have hct2 : ln_ct (sb_R 5 f2) N = ln_ct (sb_R 5 f') N := ln_ct_congr N (fun r hr => by rw [hsame r r hr hr])
      refine wp_b rfl (by simp) (fun c => absurd rfl c) (fun c => ?_)
      rcases hinv.2.2 with ⟨hg0, hs0, hpd⟩ | ⟨hg1, hct⟩
      · subst hg0
        refine wp_b rfl (by omega) (fun c2 => ?_) (fun c2 => absurd rfl c2)
        refine wp_g rfl (by omega) ?_
        refine ih (b + 1) f2 _ _ _ _ (by omega) (by omega) hok2 ⟨hin1, hin2, Or.inl ⟨rfl, fun r c hr hc => (hsame r c hr hc).trans (hs0 r c hr hc), ?_⟩⟩
        have hmem : ln_in p N (sb_R 5 f') (nn_dg p (nn_nm p N (tt_bk p N T (nn_dg p (nn_nm p N (sb_R 5 f' r))) (nn_dg p (nn_nm p N (sb_R 5 f' q)))))) := Classical.byContradiction fun z => by
          have := hj.2.2.2.1.mpr z
          cases this
        have ctS : ∀ k, k < N → ln_ct (sb_R 5 f') k = ln_ct (sb_R 5 fS) k := fun k hk => ln_ct_congr k (fun r hr => by rw [hs0 r r (by omega) (by omega)])
        refine (ap_pd_next (r0 := r) (q0 := q) (by rw [← hs0 r r hr hr]; exact hrl) (by rw [← hs0 q q hq hq]; exact hql) hr hq (by rw [← ctS r hr]; exact hrc) (by rw [← ctS q hq]; exact hqc)).mpr ⟨hpd, ?_⟩
        have h3 := (ln_in_congr hs0).mp hmem
        refine (ln_in_sub _).2.2.2 _ _ (ln_eq_trans e1 (fun c hc => tt_bk_congr (fun i hi => by rw [hs0 r i hr hi]; exact nn_eq_rfl p _) (fun i hi => by rw [hs0 q i hq hi]; exact nn_eq_rfl p _) c)) h3
      · subst hg1
        refine wp_b rfl (by omega) (fun c2 => absurd c2 (show ¬ (1 : Int) = 0 by omega)) (fun c2 => ?_)
        refine wp_g rfl (by omega) ?_
        exact ih (b + 1) f2 _ _ _ _ (by omega) (by omega) hok2 ⟨hin1, hin2, Or.inr ⟨rfl, by omega⟩⟩
set_option maxHeartbeats 1000000 in
theorem ap_B2_out (ht : tt_ok p N T) (hb : tt_br p N T br) (hn : n = N) {fS : Nat → Int} {zS : Int} (hS : sb_ok 5 N p fS zS) (hQ : ∀ (f' : Nat → Int) (z' g : Int), sb_ok 5 N p f' z' → (∀ x, ln_in p N (sb_R 5 fS) x → ln_in p N (sb_R 5 f') x) → (∀ K, ln_sub p N K → ln_g N (sb_R 5 fS) K → (∀ u v, K u → K v → K (tt_bk p N T u v)) → ln_g N (sb_R 5 f') K) → ((g = 0 ∧ (∀ r c, r < N → c < N → sb_R 5 f' r c = sb_R 5 fS r c) ∧ ∀ u v, ln_in p N (sb_R 5 fS) u → ln_in p N (sb_R 5 fS) v → ln_in p N (sb_R 5 fS) (tt_bk p N T u v)) ∨ (g = 1 ∧ ln_ct (sb_R 5 fS) N < ln_ct (sb_R 5 f') N)) → Q (some (.inl g)) [.inr (4, [.inr 1, v_u, v_u, v_u]), c_T (.inl p) (.inl n) (.inr 2), c_A 25 br, c_S (.inl 5) (.inr 4) (.inl p) (.inl n) (.inl z'), c_A 30 f']) :
    ∀ (m a : Nat) (f' : Nat → Int) (z' g ai : Int) (d1 d2 : pj_V), a + m = ln_ct (sb_R 5 fS) N → ai = a → sb_ok 5 N p f' z' → ((∀ x, ln_in p N (sb_R 5 fS) x → ln_in p N (sb_R 5 f') x) ∧ (∀ K, ln_sub p N K → ln_g N (sb_R 5 fS) K → (∀ u v, K u → K v → K (tt_bk p N T u v)) → ln_g N (sb_R 5 f') K) ∧ ((g = 0 ∧ (∀ r c, r < N → c < N → sb_R 5 f' r c = sb_R 5 fS r c) ∧ ap_pd p N T (sb_R 5 fS) (sb_R 5 fS) a 0 (ln_in p N (sb_R 5 fS))) ∨ (g = 1 ∧ ln_ct (sb_R 5 fS) N < ln_ct (sb_R 5 f') N))) → pj_WP X m_Spaces_addProducts 18 [.inr 0, .inr 3, .inr 3, .inr 3, .inl g, .inl zS, .inl zS, .inl ai, d1, d2] [] [.inr (4, [.inr 1, v_u, v_u, v_u]), c_T (.inl p) (.inl n) (.inr 2), c_A 25 br, c_S (.inl 5) (.inr 4) (.inl p) (.inl n) (.inl z'), c_A 30 f'] Q := by
  obtain ⟨hp, h1N, hN, hT, -⟩ := id ht
  have hcL := ln_ct_w (sb_R 5 fS) N
  have hcR := ln_ct_w (sb_R 5 fS) N
  have ezL := hS.2.2
  have ezR := hS.2.2
  intro m
  induction m with
  | zero =>
    intro a f' z' g ai d1 d2 hk hai hok hinv
    have hg : g = 0 ∨ g = 1 := hinv.2.2.imp (fun h => h.1) (fun h => h.1)
    refine wp_b rfl (by omega) (fun c => ?_) (fun c => absurd c (by omega))
    refine wp_r rfl (by omega) ?_
    rw [show a = ln_ct (sb_R 5 fS) N by omega] at hinv
    exact hQ f' z' g hok hinv.1 hinv.2.1 (hinv.2.2.imp (fun h => ⟨h.1, h.2.1, fun u v hu hv => tt_bil (ln_in_sub _) hS.1 hS.1 (ap_pd_all.mp h.2.2) hu hv⟩) id)
  | succ m ih =>
    intro a f' z' g ai d1 d2 hk hai hok hinv
    refine wp_b rfl (by omega) (fun c => absurd c (by omega)) (fun c => ?_)
    refine wp_g rfl (by omega) ?_
    refine ap_B2_in ht hb hn hS hai (by omega) (fun f2 z2 g2 e1 e2 hok2 hinv2 => ?_) (ln_ct (sb_R 5 fS) N) 0 f' z' g _ _ (by omega) (by omega) hok hinv
    refine wp_g rfl (by omega) ?_
    exact ih (a + 1) f2 z2 g2 _ _ _ (by omega) (by omega) hok2 ⟨hinv2.1, hinv2.2.1, hinv2.2.2.imp (fun h => ⟨h.1, h.2.1, ap_pd_row.mp h.2.2⟩) id⟩
theorem c_addProducts_B2 (ht : tt_ok p N T) (hb : tt_br p N T br) (hn : n = N) {fS : Nat → Int} {zS : Int} (hS : sb_ok 5 N p fS zS) (hQ : ∀ (f' : Nat → Int) (z' g : Int), sb_ok 5 N p f' z' → (∀ x, ln_in p N (sb_R 5 fS) x → ln_in p N (sb_R 5 f') x) → (∀ K, ln_sub p N K → ln_g N (sb_R 5 fS) K → (∀ u v, K u → K v → K (tt_bk p N T u v)) → ln_g N (sb_R 5 f') K) → ((g = 0 ∧ (∀ r c, r < N → c < N → sb_R 5 f' r c = sb_R 5 fS r c) ∧ ∀ u v, ln_in p N (sb_R 5 fS) u → ln_in p N (sb_R 5 fS) v → ln_in p N (sb_R 5 fS) (tt_bk p N T u v)) ∨ (g = 1 ∧ ln_ct (sb_R 5 fS) N < ln_ct (sb_R 5 f') N)) → Q (some (.inl g)) [.inr (4, [.inr 1, v_u, v_u, v_u]), c_T (.inl p) (.inl n) (.inr 2), c_A 25 br, c_S (.inl 5) (.inr 4) (.inl p) (.inl n) (.inl z'), c_A 30 f']) : pj_ci X m_Spaces_addProducts [.inr 0, .inr 3, .inr 3, .inr 3] [.inr (4, [.inr 1, v_u, v_u, v_u]), c_T (.inl p) (.inl n) (.inr 2), c_A 25 br, c_S (.inl 5) (.inr 4) (.inl p) (.inl n) (.inl zS), c_A 30 fS] Q := by
  refine wp_g rfl (by omega) ?_
  exact ap_B2_out ht hb hn hS hQ (ln_ct (sb_R 5 fS) N) 0 fS zS _ _ _ _ (by omega) (by omega) hS ⟨fun x hx => hx, fun K hK hg _ => hg, Or.inl ⟨rfl, fun _ _ _ _ => rfl, ap_pd_none⟩⟩
end ADDP
