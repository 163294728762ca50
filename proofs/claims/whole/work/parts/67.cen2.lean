/-! THE MODEL: the center; row rank = column rank; the centralizer -/
abbrev o_y0 : pj_C := .inr (8, [.inl 0, .inr 1, v_u, v_u, v_u, v_u, v_u, v_u, .inr 5, .inr 3, v_u, v_u, v_u, v_u, v_u, v_u, v_u, .inr 2, v_u, .inr 4, v_u, v_u, v_u, v_u, v_u, v_u, v_u, v_u])
abbrev w_y0 (s h tw eq on : Nat → Int) : List pj_C := [o_y0, c_A 127 s, c_A 5 h, c_A 5 tw, c_A 26 eq, c_A 5 on]
section RANK
variable {p : Int} {N : Nat}
/-- the span of those S q that are taken -/
theorem ln_span_ex (hp : nn_p p) (S : Nat → ln_V) (R : Nat → ln_V) : ∀ n : Nat, ∃ C, ln_R p N C ∧ (∀ W, ln_sub p N W → (ln_g N C W ↔ ∀ q, q < n → R q q ≠ 0 → W (S q))) ∧ ln_ct C N ≤ ln_ct R n
  | 0 => ⟨fun _ _ => 0, fun r _ => ⟨fun c _ => ⟨Int.le_refl 0, (nn_p_pos hp).1⟩, Or.inl fun _ _ => rfl⟩, fun W hW => ⟨fun _ q hq => absurd hq (by omega), fun _ r _ => hW.1⟩, by rw [ln_ct_0 N (fun _ _ => rfl)]; exact Nat.zero_le _⟩
  | n + 1 => by
    obtain ⟨C, c1, c2, c3⟩ := ln_span_ex hp S R n
    by_cases h : R n n = 0
    · refine ⟨C, c1, fun W hW => ?_, ?_⟩
      · rw [c2 W hW]
        constructor
        · intro a q hq hl
          by_cases e : q = n
          · subst e; exact absurd h hl
          · exact a q (by omega) hl
        · intro a q hq hl
          exact a q (by omega) hl
      · show _ ≤ ln_ct R n + (if R n n = 0 then 0 else 1)
        rw [if_pos h]
        omega
    · obtain ⟨C2, b, hj⟩ := ln_join_ex c1 hp (S n)
      refine ⟨C2, hj.1, fun W hW => ?_, ?_⟩
      · rw [hj.2.1 W hW, c2 W hW]
        constructor
        · rintro ⟨a1, a2⟩ q hq hl
          by_cases e : q = n
          · subst e; exact a2
          · exact a1 q (by omega) hl
        · intro a
          exact ⟨fun q hq hl => a q (by omega) hl, a n (by omega) h⟩
      · rw [hj.2.2.1]
        show _ ≤ ln_ct R n + (if R n n = 0 then 0 else 1)
        rw [if_neg h]
        split <;> omega
theorem ln_span_all (hp : nn_p p) (S : Nat → ln_V) (n : Nat) : ∃ C, ln_R p N C ∧ ∀ W, ln_sub p N W → (ln_g N C W ↔ ∀ q, q < n → W (S q)) := by
  obtain ⟨C, c1, c2, -⟩ := ln_span_ex hp S ln_e n
  refine ⟨C, c1, fun W hW => ?_⟩
  rw [c2 W hW]
  exact ⟨fun a q hq => a q hq (by show (if q = q then (1 : Int) else 0) ≠ 0; rw [if_pos rfl]; omega), fun a q hq _ => a q hq⟩
/-- column rank <= row rank -/
theorem ln_rank_le (hp : nn_p p) {A : Nat → Nat → Int} {R C : Nat → ln_V} (hR : ln_R p N R) (hRg : ∀ W, ln_sub p N W → (ln_g N R W ↔ ∀ i, i < N → W (A i))) (hC : ln_R p N C) (hCg : ∀ W, ln_sub p N W → (ln_g N C W ↔ ∀ k, k < N → W (fun i => A i k))) : ln_ct C N ≤ ln_ct R N := by
  have hp2 := (nn_p_pos hp).2.1
  obtain ⟨C', c1, c2, c3⟩ := ln_span_ex (N := N) hp (fun q => fun i => A i q) R N
  have hrow : ∀ i, i < N → ln_in p N R (A i) := (hRg _ (ln_in_sub R)).mp (fun r hr => ln_in_row hR hr)
  have hcol : ∀ q, q < N → R q q ≠ 0 → ln_in p N C' (fun i => A i q) := (c2 _ (ln_in_sub C')).mp (fun r hr => ln_in_row c1 hr)
  have hsub : ln_g N C (ln_in p N C') := (hCg _ (ln_in_sub C')).mpr (fun k hk => by
    have h1 := ln_sub_sm (ln_in_sub (p := p) (w := N) C') (R := fun q => if R q q = 0 then fun _ => 0 else fun i => A i q) (fun q => R q k) N (fun q hq => by
      by_cases h0 : R q q = 0
      · show ln_in p N C' (if R q q = 0 then fun _ => 0 else fun i => A i q)
        rw [if_pos h0]
        exact (ln_in_sub C').1
      · show ln_in p N C' (if R q q = 0 then fun _ => 0 else fun i => A i q)
        rw [if_neg h0]
        exact hcol q hq h0)
    refine (ln_in_sub C').2.2.2 _ _ (fun i hi => ?_) h1
    have h2 := hrow i hi k hk
    refine nn_eq_symm (nn_eq_trans h2 ?_)
    refine nn_eq_sm N (fun q hq => ?_)
    show nn_eq p (A i q * R q k) (R q k * (if R q q = 0 then fun _ => 0 else fun i => A i q : ln_V) i)
    by_cases h0 : R q q = 0
    · rw [if_pos h0, ln_R_zero hR hq hk h0, Int.mul_zero, Int.zero_mul]
      exact nn_eq_rfl p 0
    · rw [if_neg h0, Int.mul_comm]
      exact nn_eq_rfl p _)
  exact Nat.le_trans (ln_dim hC c1 (by omega) (fun x hx => ln_in_W (ln_in_sub C') hsub hx)).1 c3
theorem ln_rank (hp : nn_p p) {A : Nat → Nat → Int} {R C : Nat → ln_V} (hR : ln_R p N R) (hRg : ∀ W, ln_sub p N W → (ln_g N R W ↔ ∀ i, i < N → W (A i))) (hC : ln_R p N C) (hCg : ∀ W, ln_sub p N W → (ln_g N C W ↔ ∀ k, k < N → W (fun i => A i k))) : ln_ct C N = ln_ct R N :=
  Nat.le_antisymm (ln_rank_le hp hR hRg hC hCg) (ln_rank_le (A := fun k i => A i k) hp hC hCg hR hRg)
end RANK
section CENM2
variable {X : pj_X} {Q : pj_Q} {p : Int} {N : Nat} {T : Nat → Nat → Nat → Int} {s : Nat → Int}
def an_cd (p : Int) (N : Nat) (T : Nat → Nat → Nat → Int) (z : Int) : Prop := ∃ R, ds_is p N R (ds_cen p N T) ∧ z = (ln_ct R N : Int)
def an_cv (p : Int) (N : Nat) (T : Nat → Nat → Nat → Int) (i z : Int) : Prop := (i < 0 ∧ z = -1) ∨ (0 ≤ i ∧ ∃ R, ds_is p N R (ds_cen p N T) ∧ vo_is p N R i.toNat z)
def an_cz (p : Int) (N : Nat) (T : Nat → Nat → Nat → Int) (v z : Int) : Prop := (¬ (0 ≤ v ∧ v < p ^ N) ∧ z = -1) ∨ ((0 ≤ v ∧ v < p ^ N) ∧ ∃ R, ds_is p N R (ds_br p N T (nn_dg p v)) ∧ z = (N : Int) - (ln_ct R N : Int))
theorem dm_e {V : ln_V} {J : Nat} (hJ : J < N) (hV : ∀ j, j < N → V j = ln_e J j) (k i : Nat) : nn_eq p (dm_f p N T V k i) (T i J k) := by
  refine nn_eq_trans (nn_eq_mod p _) ?_
  have e : nn_sm N (fun j => V j * T i j k) = T i J k := by
    rw [nn_sm_one N J hJ (fun j hj hne => by rw [hV j hj, show ln_e J j = 0 from if_neg hne, Int.zero_mul]), hV J hJ, show ln_e J J = 1 from if_pos rfl, Int.one_mul]
  show nn_eq p (nn_sm N (fun j => V j * T i j k)) (T i J k)
  rw [e]
  exact nn_eq_rfl p _
theorem d_cen_loop (ht : tt_ok p N T) (hs : st_m p N T s) {wh sp : Nat → Int} (hwh : cm_ok p N ln_e wh)
    (hQ : ∀ (h tw eq sp : Nat → Int) (R' : Nat → ln_V), cm_ok p N R' sp → ds_is p N R' (ds_cen p N T) → Q none (w_c s h tw eq sp wh)) :
    ∀ (m J : Nat) (h tw eq : Nat → Int) (R : Nat → ln_V) (j : Int), J + m = N → j = J → cm_ok p N R eq → (∀ W, ln_sub p N W → (ln_g N R W ↔ ∀ j k, j < J → k < N → W (fun i => T i j k))) → pj_WP X m_Mo_makeCenter 17 [.inr 0, .inl j] [] (w_c s h tw eq sp wh) Q := by
  obtain ⟨hp, h1N, hN, hT, -⟩ := id ht
  obtain ⟨hp1, hp2, hp3⟩ := nn_p_pos hp
  obtain ⟨s0, s1, -⟩ := id hs
  have h1' : s (Int.toNat 1) = (N : Int) := s1
  intro m
  induction m with
  | zero =>
    intro J h tw eq R j hJ hj hok hinv
    refine wp_b rfl (by omega) (fun c => ?_) (fun c => absurd c (by omega))
    refine wp_c rfl (by omega) [0, 1, 2, 3, 4, 5] (d_solve hp hN s0 s1 hok (fun h tw sp2 R2 hok2 his => ?_)) rfl rfl rfl rfl
    refine wp_r rfl (by omega) (hQ h tw eq sp2 R2 hok2 ⟨his.1, fun x => (his.2 x).trans ?_⟩)
    rw [show J = N by omega] at hinv
    exact ln_ker_span hok.1 (S := fun j k i => T i j k) hinv x
  | succ m ih =>
    intro J h tw eq R j hJ hj hok hinv
    have hv : ∀ c, c < N → wh (1 + 5 * J + c) = ln_e J c := fun c hc => by
      have h9 := hwh.2.2 J (by omega) (by show (if J = J then (1 : Int) else 0) ≠ 0; rw [if_pos rfl]; omega) c (by omega)
      rw [ln_ct_e, if_pos hc] at h9
      exact h9
    refine wp_b rfl (by omega) (fun c => absurd c (by omega)) (fun c => ?_)
    refine wp_c rfl (by omega) [0, 1, 2, 3, 4, 6] (d_demand ht hs (F := 1 + 5 * J) (by omega) (by omega) (by omega) (fun c hc => by
      rw [hv c hc]
      unfold ln_e
      split <;> omega) hok (fun h2 tw2 eq2 R2 hok2 hinv2 => ?_)) rfl rfl rfl rfl
    refine wp_h (w_c s h2 tw2 eq2 sp wh) rfl ?_
    refine wp_g rfl (by omega) ?_
    refine ih (J + 1) _ _ _ R2 _ (by omega) (by omega) hok2 (fun W hW => ?_)
    have e : ∀ k, W (dm_f p N T (fun j => wh (1 + 5 * J + j)) k) ↔ W (fun i => T i J k) := fun k => ⟨hW.2.2.2 _ _ (fun c hc => dm_e (show J < N by omega) hv k c), hW.2.2.2 _ _ (fun c hc => nn_eq_symm (dm_e (show J < N by omega) hv k c))⟩
    rw [hinv2 W hW, hinv W hW]
    constructor
    · rintro ⟨a1, a2⟩ q k hq hk
      by_cases hqJ : q = J
      · rw [hqJ]; exact (e k).mp (a2 k hk)
      · exact a1 q k (by omega) hk
    · intro a
      exact ⟨fun q k hq hk => a q k (by omega) hk, fun k hk => (e k).mpr (a J k (by omega) hk)⟩
/-- makeCenter() -/
theorem d_makeCenter (ht : tt_ok p N T) (hs : st_m p N T s) {h tw eq sp wh : Nat → Int}
    (hQ : ∀ (h tw eq sp wh : Nat → Int) (R' : Nat → ln_V), cm_ok p N R' sp → ds_is p N R' (ds_cen p N T) → Q none (w_c s h tw eq sp wh)) : pj_ci X m_Mo_makeCenter [.inr 0] (w_c s h tw eq sp wh) Q := by
  obtain ⟨hp, h1N, hN, hT, -⟩ := id ht
  refine wp_c rfl (by omega) [0, 1, 6] (d_makeWhole hp hN hs.2.1 (fun wh1 hwh => ?_)) rfl rfl rfl rfl
  refine wp_h (w_c s h tw (pj_up eq (Int.toNat 0) 0) sp wh1) rfl ?_
  refine wp_g rfl (by omega) ?_
  exact d_cen_loop ht hs hwh (fun h tw eq sp R a b => hQ h tw eq sp wh1 R a b) N 0 _ _ _ (fun _ _ => 0) _ (by omega) (by omega) (cm_ok_zero (f := pj_up eq (Int.toNat 0) 0) hp rfl) (fun K hK => ⟨fun _ j k hj => absurd hj (by omega), fun _ r _ => hK.1⟩)
theorem d_cenDim (ht : tt_ok p N T) (hs : st_m p N T s) {h tw eq sp wh : Nat → Int}
    (hQ : ∀ (h tw eq sp wh : Nat → Int) (z : Int), an_cd p N T z → Q (some (.inl z)) (w_c0 s h tw eq sp wh)) : pj_ci X m_Mo_centerDimension [.inr 0] (w_c0 s h tw eq sp wh) Q := by
  refine wp_c rfl (by omega) [0, 1, 2, 3, 4, 5, 6] (d_makeCenter ht hs (fun h tw eq sp wh R hok his => ?_)) rfl rfl rfl rfl
  exact wp_r rfl (by omega) (hQ h tw eq sp wh _ ⟨R, his, hok.2.1⟩)
theorem d_cenVec (ht : tt_ok p N T) (hs : st_m p N T s) {i : Int} (hi : pj_rg i) {h tw eq sp wh : Nat → Int}
    (hQ : ∀ (h tw eq sp wh : Nat → Int) (z : Int), an_cv p N T i z → Q (some (.inl z)) (w_c0 s h tw eq sp wh)) : pj_ci X m_Mo_centerVector [.inr 0, .inl i] (w_c0 s h tw eq sp wh) Q := by
  obtain ⟨hp, h1N, hN, hT, -⟩ := id ht
  obtain ⟨s0, s1, -⟩ := id hs
  obtain ⟨hi1, hi2⟩ := hi
  refine wp_b rfl (by omega) (fun c => ?_) (fun c => ?_)
  · refine wp_c rfl (by omega) [0, 1, 2, 3, 4, 5, 6] (d_makeCenter ht hs (fun h tw eq sp wh R hok his => ?_)) rfl rfl rfl rfl
    refine wp_h (w_c0 s h tw eq sp wh) rfl ?_
    refine wp_c rfl (by omega) [0, 1, 5] (d_vectorOf (I := i.toNat) hN s0 s1 hok (by omega) (by omega) (fun z hz => ?_)) rfl rfl rfl rfl
    exact wp_r rfl (by omega) (hQ h tw eq sp wh _ (Or.inr ⟨c, R, his, hz⟩))
  · exact wp_r rfl (by omega) (hQ h tw eq sp wh _ (Or.inl ⟨by omega, rfl⟩))
/-- the brackets with v: their span, its dimension by columns -/
theorem cz_ct (hp : nn_p p) {V : ln_V} {C : Nat → ln_V} (hC : ln_R p N C) (hCg : ∀ W, ln_sub p N W → (ln_g N C W ↔ ∀ k, k < N → W (dm_f p N T V k))) : ∃ R, ds_is p N R (ds_br p N T V) ∧ ln_ct C N = ln_ct R N := by
  obtain ⟨R, r1, r2⟩ := ln_span_all (N := N) hp (fun i => tt_bk p N T (ln_e i) V) N
  refine ⟨R, ⟨r1, fun x => ⟨fun hx K hK h => ?_, fun hx => ?_⟩⟩, ?_⟩
  · exact ln_in_W hK ((r2 K hK).mpr (fun q _ => h (ln_e q))) hx
  · refine hx _ (ln_in_sub R) (fun u => ?_)
    have h2 := (r2 _ (ln_in_sub R)).mp (fun q hq => ln_in_row r1 hq)
    exact ln_e_all (N := N) (tt_sub_l (ln_in_sub R) V) (fun i hi => h2 i hi) u
  · refine ln_rank hp (A := fun i k => tt_bk p N T (ln_e i) V k) r1 r2 hC (fun W hW => ?_)
    have e : ∀ k c, c < N → nn_eq p (dm_f p N T V k c) (tt_bk p N T (ln_e c) V k) := fun k c hc => by
      refine nn_eq_trans (nn_eq_mod p _) (nn_eq_symm (nn_eq_trans (nn_eq_mod p _) ?_))
      rw [nn_sm_one N c hc (fun i _ hne => nn_sm_0 N (fun j _ => by rw [show ln_e c i = 0 from if_neg hne, Int.zero_mul, Int.zero_mul]))]
      show nn_eq p (nn_sm N (fun j => ln_e c c * V j * T c j k)) (nn_sm N (fun j => V j * T c j k))
      rw [show ln_e c c = 1 from if_pos rfl]
      refine nn_eq_sm N (fun j _ => ?_)
      rw [Int.one_mul]
      exact nn_eq_rfl p _
    rw [hCg W hW]
    exact ⟨fun a k hk => hW.2.2.2 _ _ (fun c hc => e k c hc) (a k hk), fun a k hk => hW.2.2.2 _ _ (fun c hc => nn_eq_symm (e k c hc)) (a k hk)⟩
theorem dm_f_ext {V V' : ln_V} (h : ∀ j, j < N → V j = V' j) (k : Nat) : dm_f p N T V k = dm_f p N T V' k := by
  funext i
  unfold dm_f dm_s
  exact congrArg (· % p) (nn_sm_congr N (fun j hj => by rw [h j hj]))
theorem d_czDim (ht : tt_ok p N T) (hs : st_m p N T s) {v : Int} (hv : pj_rg v) {h tw eq on : Nat → Int}
    (hQ : ∀ (h tw eq on : Nat → Int) (z : Int), an_cz p N T v z → Q (some (.inl z)) (w_y0 s h tw eq on)) : pj_ci X m_Mo_centralizerDimension [.inr 0, .inl v] (w_y0 s h tw eq on) Q := by
  obtain ⟨hp, h1N, hN, hT, -⟩ := id ht
  obtain ⟨s0, s1, -⟩ := id hs
  have hpw := nn_pwle hp N hN
  refine wp_c rfl (by omega) [0, 1] (d_isVector hp hN s0 s1 hv (fun a1 a2 => ?_) (fun a => ?_)) rfl rfl rfl rfl
  · refine wp_h (w_y0 s h tw eq on) rfl ?_
    refine wp_b rfl (by omega) (fun c => ?_) (fun c => absurd c (by omega))
    refine wp_c rfl (by omega) [0, 1, 5] (d_read hp hN s0 s1 ⟨a1, by omega⟩ ?_) rfl rfl rfl rfl
    refine wp_h (w_y0 s h tw (pj_up eq (Int.toNat 0) 0) (rd_f p N v on)) rfl ?_
    refine wp_c rfl (by omega) [0, 1, 2, 3, 4, 5] (d_demand ht hs (F := 0) (eq := pj_up eq (Int.toNat 0) 0) (R0 := fun _ _ => 0) (by omega) rfl (by omega) (fun c hc => ⟨(rd_f_ok hp c (by omega)).1, (rd_f_ok hp c (by omega)).2.1⟩) (cm_ok_zero hp rfl) (fun h2 tw2 eq2 R2 hok2 hinv2 => ?_)) rfl rfl rfl rfl
    have e := dm_f_ext (p := p) (T := T) (V := fun j => rd_f p N v on (0 + j)) (V' := nn_dg p v) (fun j hj => by rw [Nat.zero_add]; exact rd_f_eq hN hj)
    obtain ⟨R, q1, q2⟩ := cz_ct (T := T) (V := nn_dg p v) hp hok2.1 (fun W hW => by
      rw [hinv2 W hW]
      exact ⟨fun z k hk => by rw [← e k]; exact z.2 k hk, fun z => ⟨fun r _ => hW.1, fun k hk => by rw [e k]; exact z k hk⟩⟩)
    refine wp_h (w_y0 s h2 tw2 eq2 (rd_f p N v on)) rfl ?_
    refine wp_r rfl (by omega) ?_
    have z0 : eq2 (Int.toNat 0) = (ln_ct R2 N : Int) := hok2.2.1
    have z1 : s (Int.toNat 1) = (N : Int) := s1
    rw [z0, z1, q2]
    exact hQ h2 tw2 eq2 (rd_f p N v on) _ (Or.inr ⟨⟨a1, a2⟩, R, q1, rfl⟩)
  · refine wp_h (w_y0 s h tw eq on) rfl ?_
    refine wp_b rfl (by omega) (fun c => absurd rfl c) (fun c => ?_)
    exact wp_r rfl (by omega) (hQ h tw eq on _ (Or.inl ⟨by omega, rfl⟩))
end CENM2
