/-! THE MODEL: the series' methods; demand, solve, the center -/
abbrev o_m0 : pj_C := .inr (8, [.inl 0, .inr 1, v_u, v_u, v_u, v_u, v_u, v_u, v_u, v_u, .inr 3, v_u, v_u, v_u, v_u, .inr 6, .inr 5, .inr 2, .inr 4, v_u, v_u, v_u, v_u, v_u, v_u, v_u, v_u, v_u])
abbrev o_d : pj_C := .inr (8, [v_u, .inr 1, v_u, v_u, v_u, v_u, v_u, v_u, v_u, .inr 3, v_u, v_u, v_u, v_u, v_u, v_u, v_u, .inr 2, v_u, .inr 4, v_u, v_u, v_u, v_u, v_u, v_u, v_u, v_u])
abbrev o_z : pj_C := .inr (8, [v_u, .inr 1, v_u, v_u, v_u, v_u, v_u, v_u, v_u, .inr 3, v_u, v_u, v_u, v_u, v_u, .inr 5, v_u, .inr 2, v_u, .inr 4, v_u, v_u, v_u, v_u, v_u, v_u, v_u, v_u])
abbrev o_c : pj_C := .inr (8, [v_u, .inr 1, v_u, v_u, v_u, v_u, v_u, v_u, v_u, .inr 3, v_u, v_u, v_u, v_u, v_u, .inr 5, v_u, .inr 2, .inr 6, .inr 4, v_u, v_u, v_u, v_u, v_u, v_u, v_u, v_u])
abbrev o_c0 : pj_C := .inr (8, [.inl 0, .inr 1, v_u, v_u, v_u, v_u, v_u, v_u, v_u, .inr 3, v_u, v_u, v_u, v_u, v_u, .inr 5, v_u, .inr 2, .inr 6, .inr 4, v_u, v_u, v_u, v_u, v_u, v_u, v_u, v_u])
abbrev w_m0 (s h r wh ot sp : Nat → Int) : List pj_C := [o_m0, c_A 127 s, c_A 5 h, c_A 5 r, c_A 26 wh, c_A 26 ot, c_A 26 sp]
abbrev w_d (s h tw eq : Nat → Int) (lv : Nat) (gv : Nat → Int) : List pj_C := [o_d, c_A 127 s, c_A 5 h, c_A 5 tw, c_A 26 eq, c_A lv gv]
abbrev w_z (s h tw eq sp : Nat → Int) : List pj_C := [o_z, c_A 127 s, c_A 5 h, c_A 5 tw, c_A 26 eq, c_A 26 sp]
abbrev w_c (s h tw eq sp wh : Nat → Int) : List pj_C := [o_c, c_A 127 s, c_A 5 h, c_A 5 tw, c_A 26 eq, c_A 26 sp, c_A 26 wh]
abbrev w_c0 (s h tw eq sp wh : Nat → Int) : List pj_C := [o_c0, c_A 127 s, c_A 5 h, c_A 5 tw, c_A 26 eq, c_A 26 sp, c_A 26 wh]
section CENM
variable {X : pj_X} {Q : pj_Q} {p : Int} {N : Nat} {T : Nat → Nat → Nat → Int} {s : Nat → Int}
/-- a dimension of a level -/
def an_dd (p : Int) (N : Nat) (T : Nat → Nat → Nat → Int) (b : Bool) (l z : Int) : Prop := (¬ (0 ≤ l ∧ l ≤ 9) ∧ z = -1) ∨ ((0 ≤ l ∧ l ≤ 9) ∧ ∃ R, ds_is p N R (ds_D p N T b l.toNat) ∧ z = (ln_ct R N : Int))
def an_dv (p : Int) (N : Nat) (T : Nat → Nat → Nat → Int) (l i z : Int) : Prop := (¬ (0 ≤ l ∧ l ≤ 9 ∧ 0 ≤ i) ∧ z = -1) ∨ ((0 ≤ l ∧ l ≤ 9 ∧ 0 ≤ i) ∧ ∃ R, ds_is p N R (ds_D p N T false l.toNat) ∧ vo_is p N R i.toNat z)
def an_ki (p : Int) (N : Nat) (T : Nat → Nat → Nat → Int) (z : Int) : Prop := (∃ R, ds_is p N R (ds_D p N T true 9) ∧ ln_ct R N = 0 ∧ z = 2) ∨ (∃ R R2, ds_is p N R (ds_D p N T true 9) ∧ ln_ct R N ≠ 0 ∧ ds_is p N R2 (ds_D p N T false 9) ∧ z = if ln_ct R2 N = 0 then 1 else 0)
theorem d_derDim (ht : tt_ok p N T) (hs : st_m p N T s) {l : Int} (hl : pj_rg l) {h r wh ot sp : Nat → Int}
    (hQ : ∀ (h r wh ot sp : Nat → Int) (z : Int), an_dd p N T false l z → Q (some (.inl z)) (w_m0 s h r wh ot sp)) : pj_ci X m_Mo_derivedDimension [.inr 0, .inl l] (w_m0 s h r wh ot sp) Q := by
  refine wp_c rfl (by omega) [] (d_in hl (by unfold pj_rg; omega) (by unfold pj_rg; omega) (fun a b => ?_) (fun a => ?_)) rfl rfl rfl rfl
  · refine wp_b rfl (by omega) (fun c => absurd c (by omega)) (fun c => ?_)
    refine wp_c rfl (by omega) [0, 1, 2, 3, 4, 5, 6] (d_lvB ht hs (Lv := l.toNat) (by omega) (by omega) (fun h r wh ot sp R hok his => ?_)) rfl rfl rfl rfl
    exact wp_r rfl (by omega) (hQ h r wh ot sp _ (Or.inr ⟨⟨a, b⟩, R, his, rfl⟩))
  · refine wp_b rfl (by omega) (fun c => ?_) (fun c => absurd rfl c)
    exact wp_r rfl (by omega) (hQ h r wh ot sp _ (Or.inl ⟨by omega, rfl⟩))
theorem d_lowDim (ht : tt_ok p N T) (hs : st_m p N T s) {l : Int} (hl : pj_rg l) {h r wh ot sp : Nat → Int}
    (hQ : ∀ (h r wh ot sp : Nat → Int) (z : Int), an_dd p N T true l z → Q (some (.inl z)) (w_m0 s h r wh ot sp)) : pj_ci X m_Mo_lowerCentralDimension [.inr 0, .inl l] (w_m0 s h r wh ot sp) Q := by
  refine wp_c rfl (by omega) [] (d_in hl (by unfold pj_rg; omega) (by unfold pj_rg; omega) (fun a b => ?_) (fun a => ?_)) rfl rfl rfl rfl
  · refine wp_b rfl (by omega) (fun c => absurd c (by omega)) (fun c => ?_)
    refine wp_c rfl (by omega) [0, 1, 2, 3, 4, 5, 6] (d_lvA ht hs (Lv := l.toNat) (by omega) (by omega) (fun h r wh ot sp R hok his => ?_)) rfl rfl rfl rfl
    exact wp_r rfl (by omega) (hQ h r wh ot sp _ (Or.inr ⟨⟨a, b⟩, R, his, rfl⟩))
  · refine wp_b rfl (by omega) (fun c => ?_) (fun c => absurd rfl c)
    exact wp_r rfl (by omega) (hQ h r wh ot sp _ (Or.inl ⟨by omega, rfl⟩))
theorem d_derVec (ht : tt_ok p N T) (hs : st_m p N T s) {l i : Int} (hl : pj_rg l) (hi : pj_rg i) {h r wh ot sp : Nat → Int}
    (hQ : ∀ (h r wh ot sp : Nat → Int) (z : Int), an_dv p N T l i z → Q (some (.inl z)) (w_m0 s h r wh ot sp)) : pj_ci X m_Mo_derivedVector [.inr 0, .inl l, .inl i] (w_m0 s h r wh ot sp) Q := by
  obtain ⟨hp, h1N, hN, hT, -⟩ := id ht
  obtain ⟨s0, s1, -⟩ := id hs
  obtain ⟨hi1, hi2⟩ := hi
  refine wp_c rfl (by omega) [] (d_in hl (by unfold pj_rg; omega) (by unfold pj_rg; omega) (fun a b => ?_) (fun a => ?_)) rfl rfl rfl rfl
  · refine wp_b rfl (by omega) (fun c => absurd c (by omega)) (fun c => ?_)
    refine wp_b rfl (by omega) (fun c => ?_) (fun c => ?_)
    · refine wp_c rfl (by omega) [0, 1, 2, 3, 4, 5, 6] (d_lvB ht hs (Lv := l.toNat) (by omega) (by omega) (fun h r wh ot sp R hok his => ?_)) rfl rfl rfl rfl
      refine wp_h (w_m0 s h r wh ot sp) rfl ?_
      refine wp_c rfl (by omega) [0, 1, 6] (d_vectorOf (I := i.toNat) hN s0 s1 hok (by omega) (by omega) (fun z hz => ?_)) rfl rfl rfl rfl
      exact wp_r rfl (by omega) (hQ h r wh ot sp _ (Or.inr ⟨⟨a, b, c⟩, R, his, hz⟩))
    · exact wp_r rfl (by omega) (hQ h r wh ot sp _ (Or.inl ⟨by omega, rfl⟩))
  · refine wp_b rfl (by omega) (fun c => ?_) (fun c => absurd rfl c)
    exact wp_r rfl (by omega) (hQ h r wh ot sp _ (Or.inl ⟨by omega, rfl⟩))
theorem d_kind (ht : tt_ok p N T) (hs : st_m p N T s) {h r wh ot sp : Nat → Int}
    (hQ : ∀ (h r wh ot sp : Nat → Int) (z : Int), an_ki p N T z → Q (some (.inl z)) (w_m0 s h r wh ot sp)) : pj_ci X m_Mo_kind [.inr 0] (w_m0 s h r wh ot sp) Q := by
  have hN := ht.2.2.1
  refine wp_c rfl (by omega) [0, 1, 2, 3, 4, 5, 6] (d_lvA ht hs (Lv := 9) rfl (by omega) (fun h r wh ot sp R hok his => ?_)) rfl rfl rfl rfl
  have hw := ln_ct_w R N
  refine wp_h (w_m0 s h r wh ot sp) rfl ?_
  refine wp_b rfl (by omega) (fun c => ?_) (fun c => ?_)
  · refine wp_c rfl (by omega) [0, 1, 2, 3, 4, 5, 6] (d_lvB ht hs (Lv := 9) rfl (by omega) (fun h r wh ot sp R2 hok2 his2 => ?_)) rfl rfl rfl rfl
    have hw2 := ln_ct_w R2 N
    refine wp_h (w_m0 s h r wh ot sp) rfl ?_
    refine wp_b rfl (by omega) (fun c2 => ?_) (fun c2 => ?_)
    · exact wp_r rfl (by omega) (hQ h r wh ot sp _ (Or.inr ⟨R, R2, his, by omega, his2, by rw [if_neg (by omega)]⟩))
    · exact wp_r rfl (by omega) (hQ h r wh ot sp _ (Or.inr ⟨R, R2, his, by omega, his2, by rw [if_pos (by omega)]⟩))
  · exact wp_r rfl (by omega) (hQ h r wh ot sp _ (Or.inl ⟨R, his, by omega, rfl⟩))
/-- the equation of coordinate k -/
def dm_s (T : Nat → Nat → Nat → Int) (V : ln_V) (k i J : Nat) : Int := nn_sm J (fun j => V j * T i j k)
def dm_f (p : Int) (N : Nat) (T : Nat → Nat → Nat → Int) (V : ln_V) (k i : Nat) : Int := dm_s T V k i N % p
theorem d_dm_in (ht : tt_ok p N T) (hs : st_m p N T s) {lv F : Nat} {f : Int} {gv h tw eq : Nat → Int} (hlv : lv ≤ 100000) (hf : f = F) (hF : F + N ≤ lv) {K I : Nat} {k i : Int} (hk : k = K) (hK : K < N) (hi : i = I) (hI : I < N)
    (hQ : ∀ d : pj_V, pj_WP X m_Mo_demand 81 [.inr 0, .inr 5, .inl f, .inl k, .inl i, .inl (dm_s T (fun j => gv (F + j)) K I N), d] [] (w_d s h tw eq lv gv) Q) :
    ∀ (m J : Nat) (x j : Int), J + m = N → j = J → x = dm_s T (fun j => gv (F + j)) K I J → pj_WP X m_Mo_demand 27 [.inr 0, .inr 5, .inl f, .inl k, .inl i, .inl x, .inl j] [] (w_d s h tw eq lv gv) Q := by
  obtain ⟨hp, h1N, hN, hT, -⟩ := id ht
  obtain ⟨h0, h1, h2⟩ := id hs
  have h1' : s (Int.toNat 1) = (N : Int) := h1
  intro m
  induction m with
  | zero =>
    intro J x j hJ hj hx
    refine wp_b rfl (by omega) (fun c => ?_) (fun c => absurd c (by omega))
    rw [hx, show J = N by omega]
    exact hQ _
  | succ m ih =>
    intro J x j hJ hj hx
    refine wp_b rfl (by omega) (fun c => absurd c (by omega)) (fun c => ?_)
    refine wp_b rfl (by omega) (fun c => absurd c (by omega)) (fun c => ?_)
    refine wp_c rfl (by omega) [] (d_at ?_) rfl rfl rfl rfl
    refine wp_h (w_d s h tw eq lv gv) rfl ?_
    refine wp_g rfl (by omega) ?_
    refine ih (J + 1) _ _ (by omega) (by omega) ?_
    have e1 : (f + j).toNat = F + J := by omega
    have e3 : (2 + 5 * (5 * i + j) + k).toNat = 2 + 5 * (5 * I + J) + K := by omega
    rw [e1, e3, h2 I J K (by omega) (by omega) (by omega), hx]
    rfl
theorem dm_rg (ht : tt_ok p N T) {V : ln_V} (hV : ∀ j, j < N → 0 ≤ V j ∧ V j < p) (k i : Nat) : 0 ≤ dm_s T V k i N ∧ dm_s T V k i N ≤ 180 := by
  obtain ⟨hp, h1N, hN, hT, -⟩ := id ht
  have h := nn_sm_rg (B := 36) N (f := fun j => V j * T i j k) (fun j hj => nn_f7 hp (hV j hj) (hT i j k))
  have e : nn_sm N (fun j => V j * T i j k) = dm_s T V k i N := rfl
  rw [e] at h
  omega
theorem dm_out (ht : tt_ok p N T) (V : ln_V) (k : Nat) {i : Nat} (hi : N ≤ i) : dm_s T V k i N = 0 :=
  nn_sm_0 N (fun j _ => by rw [ht.2.2.2.2.1 i j k (Or.inl hi), Int.mul_zero])
theorem d_dm_mid (ht : tt_ok p N T) (hs : st_m p N T s) {lv F : Nat} {f : Int} {gv h eq : Nat → Int} (hlv : lv ≤ 100000) (hf : f = F) (hF : F + N ≤ lv) (hV : ∀ j, j < N → 0 ≤ gv (F + j) ∧ gv (F + j) < p) {K : Nat} {k : Int} (hk : k = K) (hK : K < N)
    (hQ : ∀ (tw : Nat → Int) (d1 d2 d3 : pj_V), (∀ i, i < 5 → tw i = dm_f p N T (fun j => gv (F + j)) K i) → pj_WP X m_Mo_demand 100 [.inr 0, .inr 5, .inl f, .inl k, d1, d2, d3] [] (w_d s h tw eq lv gv) Q) :
    ∀ (m I : Nat) (tw : Nat → Int) (i : Int) (d2 d3 : pj_V), I + m = 5 → i = I → (∀ i, i < I → tw i = dm_f p N T (fun j => gv (F + j)) K i) → pj_WP X m_Mo_demand 15 [.inr 0, .inr 5, .inl f, .inl k, .inl i, d2, d3] [] (w_d s h tw eq lv gv) Q := by
  obtain ⟨hp, h1N, hN, hT, -⟩ := id ht
  obtain ⟨h0, h1, h2⟩ := id hs
  have h1' : s (Int.toNat 1) = (N : Int) := h1
  intro m
  induction m with
  | zero =>
    intro I tw i d2 d3 hI hi htw
    refine wp_b rfl (by omega) (fun c => ?_) (fun c => absurd c (by omega))
    exact hQ tw _ _ _ (fun q hq => htw q (by omega))
  | succ m ih =>
    intro I tw i d2 d3 hI hi htw
    have hr := dm_rg ht hV K I
    have fin : ∀ d : pj_V, pj_WP X m_Mo_demand 81 [.inr 0, .inr 5, .inl f, .inl k, .inl i, .inl (dm_s T (fun j => gv (F + j)) K I N), d] [] (w_d s h tw eq lv gv) Q := by
      intro d
      refine wp_c rfl (by omega) [0, 1] (d_mod hp h0 (by unfold pj_rg; omega) ?_) rfl rfl rfl rfl
      refine wp_h (w_d s h tw eq lv gv) rfl ?_
      refine wp_g rfl (by omega) ?_
      refine ih (I + 1) _ _ _ _ (by omega) (by omega) (fun q hq => ?_)
      unfold pj_up
      rw [show i.toNat = I by omega]
      by_cases e : q = I
      · subst e
        rw [if_pos rfl]
        rfl
      · rw [if_neg e]
        exact htw q (by omega)
    refine wp_b rfl (by omega) (fun c => absurd c (by omega)) (fun c => ?_)
    refine wp_g rfl (by omega) ?_
    by_cases hIN : I < N
    · exact d_dm_in ht hs hlv hf hF hk hK hi hIN fin N 0 _ _ (by omega) (by omega) rfl
    · have e0 := dm_out ht (fun j => gv (F + j)) K (show N ≤ I by omega)
      refine wp_b rfl (by omega) (fun c => absurd c (by omega)) (fun c => ?_)
      refine wp_b rfl (by omega) (fun c => ?_) (fun c => absurd c (by omega))
      rw [← e0]
      exact fin _
theorem d_dm_out (ht : tt_ok p N T) (hs : st_m p N T s) {lv F : Nat} {f : Int} {gv : Nat → Int} (hlv : lv ≤ 100000) (hf : f = F) (hF : F + N ≤ lv) (hV : ∀ j, j < N → 0 ≤ gv (F + j) ∧ gv (F + j) < p) {R0 : Nat → ln_V}
    (hQ : ∀ (h tw eq : Nat → Int) (R : Nat → ln_V), cm_ok p N R eq → (∀ W, ln_sub p N W → (ln_g N R W ↔ ln_g N R0 W ∧ ∀ k, k < N → W (dm_f p N T (fun j => gv (F + j)) k))) → Q none (w_d s h tw eq lv gv)) :
    ∀ (m K : Nat) (h tw eq : Nat → Int) (R : Nat → ln_V) (k : Int) (d1 d2 d3 : pj_V), K + m = N → k = K → cm_ok p N R eq → (∀ W, ln_sub p N W → (ln_g N R W ↔ ln_g N R0 W ∧ ∀ k, k < K → W (dm_f p N T (fun j => gv (F + j)) k))) → pj_WP X m_Mo_demand 2 [.inr 0, .inr 5, .inl f, .inl k, d1, d2, d3] [] (w_d s h tw eq lv gv) Q := by
  obtain ⟨hp, h1N, hN, hT, -⟩ := id ht
  obtain ⟨hp1, hp2, hp3⟩ := nn_p_pos hp
  obtain ⟨h0, h1, h2⟩ := id hs
  have h1' : s (Int.toNat 1) = (N : Int) := h1
  intro m
  induction m with
  | zero =>
    intro K h tw eq R k d1 d2 d3 hK hk hok hinv
    refine wp_b rfl (by omega) (fun c => ?_) (fun c => absurd c (by omega))
    rw [show K = N by omega] at hinv
    exact wp_r rfl (by omega) (hQ h tw eq R hok hinv)
  | succ m ih =>
    intro K h tw eq R k d1 d2 d3 hK hk hok hinv
    refine wp_b rfl (by omega) (fun c => absurd c (by omega)) (fun c => ?_)
    refine wp_g rfl (by omega) ?_
    refine d_dm_mid ht hs hlv hf hF hV hk (by omega) (fun tw2 e1 e2 e3 htw => ?_) 5 0 _ _ _ _ (by omega) (by omega) (fun i hi => by omega)
    refine wp_c rfl (by omega) [0, 1, 2, 4, 3] (d_add (len := 5) (F := 0) (R := R) (by omega) hp hN h0 h1 hok rfl (by omega) (fun i hi => by
      rw [Nat.zero_add, htw i hi]
      unfold dm_f
      exact ⟨Int.emod_nonneg _ (by omega), Int.emod_lt_of_pos _ hp1, fun z => by rw [dm_out ht _ K z, Int.zero_emod]⟩) (fun eq2 h2 R2 bb hj hok2 => ?_)) rfl rfl rfl rfl
    refine wp_h (w_d s h2 tw2 eq2 lv gv) rfl ?_
    refine wp_g rfl (by omega) ?_
    refine ih (K + 1) _ _ _ R2 _ _ _ _ (by omega) (by omega) hok2 (fun W hW => ?_)
    have e : W (fun k => tw2 (0 + k)) ↔ W (dm_f p N T (fun j => gv (F + j)) K) := ⟨hW.2.2.2 _ _ (fun c hc => by rw [Nat.zero_add, htw c (by omega)]; exact nn_eq_rfl p _), hW.2.2.2 _ _ (fun c hc => by rw [Nat.zero_add, htw c (by omega)]; exact nn_eq_rfl p _)⟩
    rw [hj.2.1 W hW, hinv W hW, e]
    constructor
    · rintro ⟨⟨a1, a2⟩, a3⟩
      refine ⟨a1, fun q hq => ?_⟩
      by_cases hqK : q = K
      · rw [hqK]; exact a3
      · exact a2 q (by omega)
    · rintro ⟨a1, a2⟩
      exact ⟨⟨a1, fun q hq => a2 q (by omega)⟩, a2 K (by omega)⟩
/-- demand(v, from) -/
theorem d_demand (ht : tt_ok p N T) (hs : st_m p N T s) {lv F : Nat} {f : Int} {gv h tw eq : Nat → Int} {R0 : Nat → ln_V} (hlv : lv ≤ 100000) (hf : f = F) (hF : F + N ≤ lv) (hV : ∀ j, j < N → 0 ≤ gv (F + j) ∧ gv (F + j) < p) (hok : cm_ok p N R0 eq)
    (hQ : ∀ (h tw eq : Nat → Int) (R : Nat → ln_V), cm_ok p N R eq → (∀ W, ln_sub p N W → (ln_g N R W ↔ ln_g N R0 W ∧ ∀ k, k < N → W (dm_f p N T (fun j => gv (F + j)) k))) → Q none (w_d s h tw eq lv gv)) : pj_ci X m_Mo_demand [.inr 0, .inr 5, .inl f] (w_d s h tw eq lv gv) Q := by
  refine wp_g rfl (by omega) ?_
  exact d_dm_out ht hs hlv hf hF hV hQ N 0 _ _ _ R0 _ _ _ _ (by omega) (by omega) hok (fun W hW => ⟨fun z => ⟨z, fun k hk => by omega⟩, fun z => z.1⟩)
/-- two, while the rows are walked -/
def sv_t (p : Int) (N : Nat) (R : Nat → ln_V) (F J : Nat) (c : Nat) : Int := if c = F then 1 else if c < N ∧ R c c ≠ 0 ∧ ln_ct R c < J then (-(R c F)) % p else 0
theorem d_sv_unit {F : Nat} {fr fl : Int} {h eq sp : Nat → Int} (hF : fr = F) (hF5 : F < 5) {d4 : pj_V}
    (hQ : ∀ (tw : Nat → Int) (d : pj_V), (∀ c, c < 5 → tw c = if c = F then 1 else 0) → pj_WP X m_Mo_solve 50 [.inr 0, .inl fr, .inl fl, d, d4] [] (w_z s h tw eq sp) Q) :
    ∀ (m K : Nat) (tw : Nat → Int) (k : Int), K + m = 5 → k = K → (∀ c, c < K → tw c = if c = F then 1 else 0) → pj_WP X m_Mo_solve 23 [.inr 0, .inl fr, .inl fl, .inl k, d4] [] (w_z s h tw eq sp) Q := by
  intro m
  induction m with
  | zero =>
    intro K tw k hK hk htw
    refine wp_b rfl (by omega) (fun c => ?_) (fun c => absurd c (by omega))
    exact hQ tw _ (fun q hq => htw q (by omega))
  | succ m ih =>
    intro K tw k hK hk htw
    have next : ∀ x : Int, x = (if K = F then 1 else 0) → ∀ c, c < K + 1 → pj_up tw k.toNat x c = if c = F then 1 else 0 := fun x hx c hc => by
      unfold pj_up
      rw [show k.toNat = K by omega]
      by_cases e : c = K
      · subst e
        rw [if_pos rfl, hx]
      · rw [if_neg e]
        exact htw c (by omega)
    refine wp_b rfl (by omega) (fun c => absurd c (by omega)) (fun c => ?_)
    refine wp_b rfl (by omega) (fun c => ?_) (fun c => ?_)
    · refine wp_g rfl (by omega) ?_
      exact ih (K + 1) _ _ (by omega) (by omega) (next _ (by rw [if_neg (by omega)]))
    · refine wp_g rfl (by omega) ?_
      exact ih (K + 1) _ _ (by omega) (by omega) (next _ (by rw [if_pos (by omega)]))
set_option maxHeartbeats 1000000 in
theorem d_sv_in {F : Nat} {fr : Int} {R : Nat → ln_V} {h eq sp : Nat → Int} (hp : nn_p p) (hN : N ≤ 5) (s0 : s 0 = p) (s1 : s 1 = (N : Int)) (hR : cm_ok p N R eq) (hF : fr = F) (hFN : F < N)
    (hQ : ∀ (tw : Nat → Int) (fl : Int) (d d4 : pj_V), (fl = if R F F = 0 then 1 else 0) → (∀ c, c < 5 → tw c = sv_t p N R F (ln_ct R N) c) → pj_WP X m_Mo_solve 129 [.inr 0, .inl fr, .inl fl, d, d4] [] (w_z s h tw eq sp) Q) :
    ∀ (m J : Nat) (tw : Nat → Int) (fl k : Int) (d4 : pj_V), J + m = ln_ct R N → k = J → (fl = if R F F ≠ 0 ∧ ln_ct R F < J then 0 else 1) → (∀ c, c < 5 → tw c = sv_t p N R F J c) → pj_WP X m_Mo_solve 52 [.inr 0, .inl fr, .inl fl, .inl k, d4] [] (w_z s h tw eq sp) Q := by
  obtain ⟨hp1, hp2, hp3⟩ := nn_p_pos hp
  have he0 : eq (Int.toNat 0) = (ln_ct R N : Int) := hR.2.1
  have hw := ln_ct_w R N
  intro m
  induction m with
  | zero =>
    intro J tw fl k d4 hJ hk hfl htw
    refine wp_b rfl (by omega) (fun c => ?_) (fun c => absurd c (by omega))
    refine hQ tw fl _ _ ?_ (by rw [show J = ln_ct R N by omega] at htw; exact htw)
    rw [hfl]
    by_cases e : R F F = 0
    · rw [if_pos e, if_neg (fun z => z.1 e)]
    · have := ln_ct_lt (R := R) hFN e
      rw [if_neg e, if_pos ⟨e, by omega⟩]
  | succ m ih =>
    intro J tw fl k d4 hJ hk hfl htw
    obtain ⟨r, r1, r2, r3, r4, r5⟩ := cm_row hR hN (j := J) (by omega)
    have hfl1 : fl = 0 ∨ fl = 1 := by rw [hfl]; split <;> omega
    refine wp_b rfl (by omega) (fun c => absurd c (by omega)) (fun c => ?_)
    refine wp_c rfl (by omega) [0, 1, 4] (d_leadOf (F := 1 + 5 * J) (by omega) hN s1 (by omega) (by omega) (fun c hc => by have := r5 c hc; unfold pj_rg; omega) (fun K hK hK0 hK1 => ?_)) rfl rfl rfl rfl
    have eK : K = r := by
      rcases Nat.lt_trichotomy K r with z | z | z
      · exact absurd (by rw [r4 K (by omega)]; exact ln_R_low hR.1 r1 z) (hK1 (by omega))
      · exact z
      · exact absurd (by rw [← r4 r r1]; exact hK0 r z) r2
    subst eK
    refine wp_h (w_z s h tw eq sp) rfl ?_
    -- what stands in two behind this row
    have htw2 : ∀ x : Int, K ≠ F → x = (-(R K F)) % p → ∀ c, c < 5 → pj_up tw K x c = sv_t p N R F (J + 1) c := fun x hne hx c hc => by
      unfold pj_up
      by_cases e : c = K
      · subst e
        unfold sv_t
        rw [if_pos rfl, if_neg hne, if_pos ⟨r1, r2, by omega⟩, hx]
      · rw [if_neg e, htw c hc]
        unfold sv_t
        by_cases e2 : c = F
        · rw [if_pos e2, if_pos e2]
        · rw [if_neg e2, if_neg e2]
          by_cases e3 : c < N ∧ R c c ≠ 0 ∧ ln_ct R c < J
          · rw [if_pos e3, if_pos ⟨e3.1, e3.2.1, by omega⟩]
          · rw [if_neg e3, if_neg]
            rintro ⟨z1, z2, z3⟩
            by_cases z4 : ln_ct R c = J
            · exact e (ln_ct_inj z2 r2 (by omega))
            · exact e3 ⟨z1, z2, by omega⟩
    have htw3 : K = F → ∀ c, c < 5 → tw c = sv_t p N R F (J + 1) c := fun heq c hc => by
      rw [htw c hc]
      unfold sv_t
      by_cases e2 : c = F
      · rw [if_pos e2, if_pos e2]
      · rw [if_neg e2, if_neg e2]
        by_cases e3 : c < N ∧ R c c ≠ 0 ∧ ln_ct R c < J
        · rw [if_pos e3, if_pos ⟨e3.1, e3.2.1, by omega⟩]
        · rw [if_neg e3, if_neg]
          rintro ⟨z1, z2, z3⟩
          by_cases z4 : ln_ct R c = J
          · exact e2 ((ln_ct_inj z2 r2 (by omega)).trans heq)
          · exact e3 ⟨z1, z2, by omega⟩
    -- the second half: the branch on the lead again
    have half : ∀ fl2 : Int, (fl2 = if R F F ≠ 0 ∧ ln_ct R F < J + 1 then 0 else 1) → pj_WP X m_Mo_solve 96 [.inr 0, .inl fr, .inl fl2, .inl k, .inl (K : Int)] [.inl fr, .inl (K : Int)] (w_z s h tw eq sp) Q := by
      intro fl2 hfl2
      refine wp_b rfl (by omega) (fun c => ?_) (fun c => ?_)
      · refine wp_g rfl (by omega) ?_
        exact ih (J + 1) _ _ _ _ (by omega) (by omega) hfl2 (htw3 (by omega))
      · have e1 : (1 + 5 * k + fr).toNat = 1 + 5 * J + F := by omega
        have hrg := (hR.1 K r1).1 F hFN
        refine wp_c rfl (by omega) [0, 1] (d_mod hp s0 (by rw [e1, r4 F hFN]; unfold pj_rg; omega) ?_) rfl rfl rfl rfl
        rw [e1, r4 F hFN]
        refine wp_h (w_z s h tw eq sp) rfl ?_
        refine wp_g rfl (by omega) ?_
        rw [Int.toNat_natCast]
        exact ih (J + 1) _ _ _ _ (by omega) (by omega) hfl2 (htw2 _ (by omega) rfl)
    refine wp_b rfl (by omega) (fun c => ?_) (fun c => ?_)
    · refine wp_g rfl (by omega) ?_
      refine half _ ?_
      rw [hfl] at c
      by_cases e : R F F ≠ 0 ∧ ln_ct R F < J
      · rw [if_pos ⟨e.1, by omega⟩]
      · rw [if_neg e] at c
        omega
    · refine wp_b rfl (by omega) (fun c2 => ?_) (fun c2 => ?_)
      · have e9 : K = F := by omega
        refine wp_g rfl (by omega) ?_
        refine half _ ?_
        subst e9
        rw [if_pos ⟨r2, by omega⟩]
      · refine wp_g rfl (by omega) ?_
        refine half _ ?_
        rw [hfl] at c
        rw [if_neg]
        rintro ⟨z1, z2⟩
        by_cases z4 : ln_ct R F = J
        · exact c2 (by have := ln_ct_inj z1 r2 (by omega); omega)
        · rw [if_pos ⟨z1, by omega⟩] at c
          exact c rfl
theorem sv_vf {R : Nat → ln_V} (hR : ln_R p N R) {F : Nat} (hF : F < N) : ln_eq p N (sv_t p N R F (ln_ct R N)) (ln_vf R F) := by
  intro c hc
  unfold sv_t ln_vf
  by_cases e : c = F
  · rw [if_pos e, if_pos e]
    exact nn_eq_rfl p _
  · rw [if_neg e, if_neg e]
    by_cases hl : R c c = 0
    · rw [if_neg (fun z => z.2.1 hl), ln_R_zero hR hc hF hl]
      exact nn_eq_rfl p _
    · rw [if_pos ⟨hc, hl, ln_ct_lt hc hl⟩]
      exact nn_eq_mod p _
theorem d_sv_out {R : Nat → ln_V} {eq : Nat → Int} (hp : nn_p p) (hN : N ≤ 5) (s0 : s 0 = p) (s1 : s 1 = (N : Int)) (hR : cm_ok p N R eq)
    (hQ : ∀ (h tw sp : Nat → Int) (R' : Nat → ln_V), cm_ok p N R' sp → ds_is p N R' (ln_ker p N R) → Q none (w_z s h tw eq sp)) :
    ∀ (m F : Nat) (h tw sp : Nat → Int) (R' : Nat → ln_V) (fr : Int) (d2 d3 d4 : pj_V), F + m = N → fr = F → cm_ok p N R' sp → (∀ K, ln_sub p N K → (ln_g N R' K ↔ ∀ f, f < F → R f f = 0 → K (ln_vf R f))) → pj_WP X m_Mo_solve 9 [.inr 0, .inl fr, d2, d3, d4] [] (w_z s h tw eq sp) Q := by
  obtain ⟨hp1, hp2, hp3⟩ := nn_p_pos hp
  have h1' : s (Int.toNat 1) = (N : Int) := s1
  intro m
  induction m with
  | zero =>
    intro F h tw sp R' fr d2 d3 d4 hF hfr hok hinv
    refine wp_b rfl (by omega) (fun c => ?_) (fun c => absurd c (by omega))
    rw [show F = N by omega] at hinv
    exact wp_r rfl (by omega) (hQ h tw sp R' hok (ln_ker_is hR.1 hok.1 hinv))
  | succ m ih =>
    intro F h tw sp R' fr d2 d3 d4 hF hfr hok hinv
    refine wp_b rfl (by omega) (fun c => absurd c (by omega)) (fun c => ?_)
    refine wp_g rfl (by omega) ?_
    refine d_sv_unit (F := F) hfr (by omega) (fun tw1 e1 htw1 => ?_) 5 0 _ _ (by omega) (by omega) (fun c hc => by omega)
    refine wp_g rfl (by omega) ?_
    refine d_sv_in (F := F) hp hN s0 s1 hR hfr (by omega) (fun tw2 fl e2 e3 hfl htw2 => ?_) (ln_ct R N) 0 _ _ _ _ (by omega) (by omega) (by rw [if_neg (fun z => by omega)]) (fun c hc => by
      rw [htw1 c hc]
      unfold sv_t
      by_cases e : c = F
      · rw [if_pos e, if_pos e]
      · rw [if_neg e, if_neg e, if_neg (fun z => by omega)])
    by_cases h0 : R F F = 0
    · rw [if_pos h0] at hfl
      subst hfl
      have hv := sv_vf hR.1 (show F < N by omega)
      refine wp_b rfl (by omega) (fun c => absurd c (by omega)) (fun c => ?_)
      refine wp_c rfl (by omega) [0, 1, 2, 5, 3] (d_add (len := 5) (F := 0) (R := R') (by omega) hp hN s0 s1 hok rfl (by omega) (fun c hc => by
        rw [Nat.zero_add, htw2 c hc]
        unfold sv_t
        by_cases e : c = F
        · rw [if_pos e]
          exact ⟨by omega, by omega, fun z => by omega⟩
        · rw [if_neg e]
          by_cases e3 : c < N ∧ R c c ≠ 0 ∧ ln_ct R c < ln_ct R N
          · rw [if_pos e3]
            exact ⟨Int.emod_nonneg _ (by omega), Int.emod_lt_of_pos _ hp1, fun z => by omega⟩
          · rw [if_neg e3]
            exact ⟨Int.le_refl 0, hp1, fun _ => rfl⟩) (fun sp2 h2 R2 bb hj hok2 => ?_)) rfl rfl rfl rfl
      refine wp_h (w_z s h2 tw2 eq sp2) rfl ?_
      refine wp_g rfl (by omega) ?_
      refine ih (F + 1) _ _ _ R2 _ _ _ _ (by omega) (by omega) hok2 (fun K hK => ?_)
      have hv2 : ln_eq p N (fun k => tw2 (0 + k)) (ln_vf R F) := fun c hc => by
        show nn_eq p (tw2 (0 + c)) (ln_vf R F c)
        rw [Nat.zero_add, htw2 c (by omega)]
        exact hv c hc
      have e : K (fun k => tw2 (0 + k)) ↔ K (ln_vf R F) := ⟨hK.2.2.2 _ _ hv2, hK.2.2.2 _ _ (ln_eq_symm hv2)⟩
      rw [hj.2.1 K hK, hinv K hK, e]
      constructor
      · rintro ⟨a1, a2⟩ f hf hf0
        by_cases hfF : f = F
        · rw [hfF]; exact a2
        · exact a1 f (by omega) hf0
      · intro a
        exact ⟨fun f hf hf0 => a f (by omega) hf0, a F (by omega) h0⟩
    · rw [if_neg h0] at hfl
      subst hfl
      refine wp_b rfl (by omega) (fun c => ?_) (fun c => absurd rfl c)
      refine wp_g rfl (by omega) ?_
      refine ih (F + 1) _ _ _ R' _ _ _ _ (by omega) (by omega) hok (fun K hK => ?_)
      rw [hinv K hK]
      constructor
      · intro a f hf hf0
        by_cases hfF : f = F
        · subst hfF; exact absurd hf0 h0
        · exact a f (by omega) hf0
      · intro a f hf hf0
        exact a f (by omega) hf0
/-- solve() -/
theorem d_solve {R : Nat → ln_V} {h tw eq sp : Nat → Int} (hp : nn_p p) (hN : N ≤ 5) (s0 : s 0 = p) (s1 : s 1 = (N : Int)) (hR : cm_ok p N R eq)
    (hQ : ∀ (h tw sp : Nat → Int) (R' : Nat → ln_V), cm_ok p N R' sp → ds_is p N R' (ln_ker p N R) → Q none (w_z s h tw eq sp)) : pj_ci X m_Mo_solve [.inr 0] (w_z s h tw eq sp) Q := by
  refine wp_g rfl (by omega) ?_
  exact d_sv_out hp hN s0 s1 hR hQ N 0 _ _ _ (fun _ _ => 0) _ _ _ _ (by omega) (by omega) (cm_ok_zero (f := pj_up sp (Int.toNat 0) 0) hp rfl) (fun K hK => ⟨fun _ f hf => absurd hf (by omega), fun _ r _ => hK.1⟩)
end CENM
