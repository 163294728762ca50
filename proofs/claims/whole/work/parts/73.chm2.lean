/-! THE MODEL: scaleBasis, swapBasis -/
section CHM2
variable {X : pj_X} {Q : pj_Q} {p : Int} {N : Nat} {T : Nat → Nat → Nat → Int} {s : Nat → Int}
theorem nn_sm_5 (g : Nat → Int) : ∀ M : Nat, nn_sm (5 * M) g = nn_sm M (fun i => nn_sm 5 (fun j => g (5 * i + j)))
  | 0 => rfl
  | M + 1 => by
    show nn_sm (5 * M + 5) g = nn_sm M (fun i => nn_sm 5 (fun j => g (5 * i + j))) + nn_sm 5 (fun j => g (5 * M + j))
    rw [← nn_sm_5 g M]
    show nn_sm (5 * M) g + g (5 * M) + g (5 * M + 1) + g (5 * M + 2) + g (5 * M + 3) + g (5 * M + 4) = nn_sm (5 * M) g + (0 + g (5 * M + 0) + g (5 * M + 1) + g (5 * M + 2) + g (5 * M + 3) + g (5 * M + 4))
    have e0 : g (5 * M + 0) = g (5 * M) := rfl
    omega
theorem nn_sm_cut {f : Nat → Int} {N : Nat} : ∀ m : Nat, (∀ k, N ≤ k → k < N + m → f k = 0) → nn_sm (N + m) f = nn_sm N f
  | 0, _ => rfl
  | m + 1, h => by
    show nn_sm (N + m) f + f (N + m) = nn_sm N f
    rw [nn_sm_cut m (fun k h1 h2 => h k h1 (by omega)), h (N + m) (by omega) (by omega), Int.add_zero]
/-- the pairs with a bracket -/
def pc_f (p : Int) (N : Nat) (s : Nat → Int) (m : Nat) : Int := if nn_nm p N (fun k => s (2 + 5 * m + k)) = 0 then 0 else 1
theorem pc_eq {T' : Nat → Nat → Nat → Int} {s' br : Nat → Int} (ht : tt_ok p N T') (hs : st_m p N T' s') (hb : tt_br p N T' br) : nn_sm 25 (pc_f p N s') = jc_cc br N N := by
  obtain ⟨hp, h1N, hN, hT, h0, -⟩ := id ht
  have e : ∀ i j, i < 5 → j < 5 → pc_f p N s' (5 * i + j) = if br (5 * i + j) = 0 then 0 else 1 := fun i j hi hj => by
    unfold pc_f
    rw [hb i j hi hj, nn_nm_congr N (f := fun k => s' (2 + 5 * (5 * i + j) + k)) (g := T' i j) (fun k hk => hs.2.2 i j k hi hj (by omega))]
  have z : ∀ i j, i < 5 → j < 5 → (N ≤ i ∨ N ≤ j) → pc_f p N s' (5 * i + j) = 0 := fun i j hi hj hn => by
    rw [e i j hi hj, hb i j hi hj, nn_nm_eq0 N (fun k _ => h0 i j k (by omega)), if_pos rfl]
  have r : ∀ i, i < 5 → nn_sm 5 (fun j => pc_f p N s' (5 * i + j)) = nn_sm N (fun j => pc_f p N s' (5 * i + j)) := fun i hi => by
    have h9 := nn_sm_cut (f := fun j => pc_f p N s' (5 * i + j)) (N := N) (5 - N) (fun k h1 h2 => z i k hi (by omega) (Or.inr h1))
    rw [show N + (5 - N) = 5 by omega] at h9
    exact h9
  have h5 := nn_sm_5 (pc_f p N s') 5
  rw [show (5 * 5 : Nat) = 25 from rfl] at h5
  rw [h5, nn_sm_congr 5 r]
  have h9 := nn_sm_cut (f := fun i => nn_sm N (fun j => pc_f p N s' (5 * i + j))) (N := N) (5 - N) (fun k h1 h2 => nn_sm_0 N (fun j hj => z k j (by omega) (by omega) (Or.inl h1)))
  rw [show N + (5 - N) = 5 by omega] at h9
  rw [h9]
  exact nn_sm_congr N (fun i hi => nn_sm_congr N (fun j hj => e i j (by omega) (by omega)))
theorem d_sc_loop {h r f t0 : Nat → Int} {d i a y : Int} {d3 : pj_V} {I : Nat} (hp : nn_p p) (s0 : s 0 = p) (hi : i = I) (hI : I < 5) (ha : 1 ≤ a ∧ a < p) (hy : 1 ≤ y ∧ y < p) (hya : y * a % p = 1) (ht0 : ∀ q, q < 125 → 0 ≤ t0 q ∧ t0 q < p)
    (hQ : ∀ (t : Nat → Int) (e : pj_V), (∀ m k, m < 25 → k < 5 → t (5 * m + k) = if k = I then (t0 (5 * m + I) * y) % p else t0 (5 * m + k)) → pj_WP X m_Mo_scaleBasis 103 [.inr 0, .inl i, .inl a, d3, e] [] (w_t0 s h r f t d) Q) :
    ∀ (n M : Nat) (t : Nat → Int) (m : Int), M + n = 25 → m = M → (∀ m k, m < 25 → k < 5 → t (5 * m + k) = if k = I ∧ m < M then (t0 (5 * m + I) * y) % p else t0 (5 * m + k)) → pj_WP X m_Mo_scaleBasis 58 [.inr 0, .inl i, .inl a, d3, .inl m] [] (w_t0 s h r f t d) Q := by
  obtain ⟨hp1, hp2, hp3⟩ := nn_p_pos hp
  intro n
  induction n with
  | zero =>
    intro M t m hM hm ht
    refine wp_b rfl (by omega) (fun c => ?_) (fun c => absurd c (by omega))
    refine hQ t _ (fun m k hm hk => ?_)
    rw [ht m k hm hk]
    by_cases e : k = I
    · rw [if_pos ⟨e, by omega⟩, if_pos e]
    · rw [if_neg (fun z => e z.1), if_neg e]
  | succ n ih =>
    intro M t m hM hm ht
    have e2 : (5 * m + i).toNat = 5 * M + I := by omega
    have e4 : t (5 * M + I) = t0 (5 * M + I) := by rw [ht M I (by omega) hI, if_neg (by omega)]
    have r2 := nn_f7 hp (ht0 (5 * M + I) (by omega)) (show 0 ≤ y ∧ y < p by omega)
    refine wp_b rfl (by omega) (fun c => absurd c (by omega)) (fun c => ?_)
    refine wp_c rfl (by omega) [0, 1] (d_inverse hp s0 ha (fun y2 q1 q2 q3 => ?_)) rfl rfl rfl rfl
    have ey := nn_inv_one hp ⟨q1, q2⟩ hy q3 hya
    subst ey
    refine wp_h (w_t0 s h r f t d) rfl ?_
    refine wp_c rfl (by omega) [0, 1] (d_mod hp s0 (by rw [e2, e4]; unfold pj_rg; omega) ?_) rfl rfl rfl rfl
    rw [e2, e4]
    refine wp_h (w_t0 s h r f t d) rfl ?_
    refine wp_g rfl (by omega) ?_
    rw [e2]
    refine ih (M + 1) _ _ (by omega) (by omega) (fun q k hq hk => ?_)
    unfold pj_up
    by_cases e : 5 * q + k = 5 * M + I
    · have x1 : q = M := by omega
      have x2 : k = I := by omega
      subst x1 x2
      rw [if_pos rfl, if_pos ⟨rfl, by omega⟩]
    · rw [if_neg e, ht q k hq hk]
      by_cases e9 : k = I ∧ q < M
      · rw [if_pos e9, if_pos ⟨e9.1, by omega⟩]
      · rw [if_neg e9, if_neg (by omega)]
theorem d_sc_cnt {h r f t : Nat → Int} {d i a : Int} (hp : nn_p p) (hN : N ≤ 5) (s0 : s 0 = p) (s1 : s 1 = (N : Int)) (hs : ∀ q, 2 ≤ q → q < 127 → 0 ≤ s q ∧ s q < p)
    (hQ : Q (some (.inl (nn_sm 25 (pc_f p N s)))) (w_t0 s h r f t d)) :
    ∀ (n M : Nat) (x m : Int), M + n = 25 → m = M → x = nn_sm M (pc_f p N s) → pj_WP X m_Mo_scaleBasis 110 [.inr 0, .inl i, .inl a, .inl x, .inl m] [] (w_t0 s h r f t d) Q := by
  intro n
  induction n with
  | zero =>
    intro M x m hM hm hx
    refine wp_b rfl (by omega) (fun c => ?_) (fun c => absurd c (by omega))
    refine wp_r rfl (by omega) ?_
    rw [hx, show M = 25 by omega]
    exact hQ
  | succ n ih =>
    intro M x m hM hm hx
    have hr := jc_rg (N := N) hp hN (f := fun k => s (2 + 5 * M + k)) (fun c hc => hs _ (by omega) (by omega))
    have e9 : nn_sm (M + 1) (pc_f p N s) = nn_sm M (pc_f p N s) + pc_f p N s M := rfl
    refine wp_b rfl (by omega) (fun c => absurd c (by omega)) (fun c => ?_)
    refine wp_c rfl (by omega) [0, 1] (d_numberS (F := 2 + 5 * M) hN s0 s1 (by omega) (by omega) ?_) rfl rfl rfl rfl
    refine wp_h (w_t0 s h r f t d) rfl ?_
    refine wp_b rfl (by omega) (fun c => ?_) (fun c => ?_)
    · refine wp_g rfl (by omega) ?_
      refine ih (M + 1) _ _ (by omega) (by omega) ?_
      rw [e9, hx]
      unfold pc_f
      rw [if_neg c]
    · refine wp_g rfl (by omega) ?_
      refine ih (M + 1) _ _ (by omega) (by omega) ?_
      rw [e9, hx]
      unfold pc_f
      rw [if_pos (Decidable.of_not_not c)]
theorem ch_scl_rg (hp : nn_p p) {a : Int} (ha : 0 ≤ a ∧ a < p) {I : Nat} (x y : Nat) : 0 ≤ ch_u I (fun c => a * ln_e I c) x y ∧ ch_u I (fun c => a * ln_e I c) x y < p := by
  have hp2 := (nn_p_pos hp).2.1
  unfold ch_u
  by_cases e : x = I
  · rw [if_pos e]
    show 0 ≤ a * (if y = I then (1 : Int) else 0) ∧ a * (if y = I then (1 : Int) else 0) < p
    by_cases e1 : y = I
    · rw [if_pos e1, Int.mul_one]
      omega
    · rw [if_neg e1, Int.mul_zero]
      omega
  · rw [if_neg e]
    show 0 ≤ (if y = x then (1 : Int) else 0) ∧ (if y = x then (1 : Int) else 0) < p
    split <;> omega
set_option maxHeartbeats 1000000 in
/-- scaleBasis(i, c) -/
theorem d_scaleBasis (ht : tt_ok p N T) (hs : st_m p N T s) {h r f t : Nat → Int} {d i a : Int} {D : Nat} (hd : d = D) (hD : D ≤ 6) (hi : pj_rg i) (ha : pj_rg a)
    (h0 : ¬ ((0 ≤ i ∧ i < N) ∧ 1 ≤ a ∧ a < p) → Q (some (.inl (-1))) (w_t0 s h r f t d))
    (h1 : ∀ (I : Nat) (y : Int) (s' h' r f t : Nat → Int), i = I → I < N → 1 ≤ a → a < p → 1 ≤ y → y < p → y * a % p = 1 → kp_is D s h h' → st_m p N (ch_T p N T (ch_u I (fun c => a * ln_e I c)) (ch_u I (fun c => y * ln_e I c))) s' → Q (some (.inl (nn_sm 25 (pc_f p N s')))) (w_t0 s' h' r f t (if D = 6 then 6 else d + 1))) :
    pj_ci X m_Mo_scaleBasis [.inr 0, .inl i, .inl a] (w_t0 s h r f t d) Q := by
  obtain ⟨hp, h1N, hN, hT, -⟩ := id ht
  obtain ⟨hp1, hp2, hp3⟩ := nn_p_pos hp
  obtain ⟨s0, s1, s2⟩ := id hs
  have s0' : s (Int.toNat 0) = p := s0
  obtain ⟨i1, i2⟩ := id hi
  refine wp_c rfl (by omega) [0, 1] (d_isIndex hN s1 hi (fun a1 a2 => ?_) (fun a => ?_)) rfl rfl rfl rfl
  · refine wp_h (w_t0 s h r f t d) rfl ?_
    refine wp_b rfl (by omega) (fun c => absurd c (by omega)) (fun _ => ?_)
    refine wp_c rfl (by omega) [] (d_in ha (by unfold pj_rg; omega) (by rw [s0']; unfold pj_rg; omega) (fun c1 c2 => ?_) (fun c => ?_)) rfl rfl rfl rfl
    · rw [s0'] at c2
      refine wp_h (w_t0 s h r f t d) rfl ?_
      refine wp_b rfl (by omega) (fun _ => ?_) (fun c => absurd c (by omega))
      refine wp_c rfl (by omega) [0, 1, 2] (d_keep hd hD (fun h' hk => ?_)) rfl rfl rfl rfl
      refine wp_h (w_t0 s h' r f t (if D = 6 then 6 else d + 1)) rfl ?_
      refine wp_c rfl (by omega) [0, 4, 5] (d_beginChange (fun f1 t1 hf1 ht1 => ?_)) rfl rfl rfl rfl
      refine wp_h (w_t0 s h' r f1 t1 (if D = 6 then 6 else d + 1)) rfl ?_
      have hI5 : i.toNat < N := by omega
      have ef : ∀ x y, x < N → y < N → pj_up f1 (6 * i.toNat) a (5 * x + y) = ch_u i.toNat (fun c => a * ln_e i.toNat c) x y := fun x y hx hy => by
        unfold pj_up ch_u
        by_cases e : x = i.toNat
        · rw [if_pos e]
          by_cases e2 : y = i.toNat
          · rw [if_pos (by omega)]
            unfold ln_e
            rw [if_pos e2, Int.mul_one]
          · rw [if_neg (by omega), fr_id hf1 (by omega) (by omega), e]
            unfold ln_e
            rw [if_neg e2, Int.mul_zero]
        · rw [if_neg e, if_neg (by omega)]
          exact fr_id hf1 (by omega) (by omega)
      have eij : (6 * i).toNat = 6 * i.toNat := by omega
      refine wp_c rfl (by omega) [0, 1, 3, 4, 5] (d_makeTable ht hs (f := pj_up f1 (6 * i).toNat a) (fun x y hx hy => by
        rw [eij, ef x y hx hy]
        exact ch_scl_rg hp ⟨by omega, by omega⟩ x y) ht1 (fun r2 t2 ht2 => ?_)) rfl rfl rfl rfl
      rw [eij] at ht2
      refine wp_h (w_t0 s h' r2 (pj_up f1 (6 * i).toNat a) t2 (if D = 6 then 6 else d + 1)) rfl ?_
      refine wp_g rfl (by omega) ?_
      have ht2r : ∀ q, q < 125 → 0 ≤ t2 q ∧ t2 q < p := fun q hq => by
        have e := ht2 (q / 25) (q / 5 % 5) (q % 5) (by omega) (by omega) (by omega)
        rw [show 5 * (5 * (q / 25) + q / 5 % 5) + q % 5 = q by omega] at e
        rw [e]
        exact mt_rg ht _ _ _ _
      obtain ⟨y, y1, y2, y3⟩ := nn_inv_ex hp a c1 (by omega)
      refine d_sc_loop (I := i.toNat) (t0 := t2) hp s0 (by omega) (by omega) ⟨c1, by omega⟩ ⟨y1, y2⟩ y3 ht2r (fun t3 e3 ht3 => ?_) 25 0 _ _ (by omega) (by omega) (fun m k _ _ => by rw [if_neg (by omega)])
      have hT' : ∀ x z k, x < 5 → z < 5 → k < 5 → t3 (5 * (5 * x + z) + k) = ch_T p N T (ch_u i.toNat (fun c => a * ln_e i.toNat c)) (ch_u i.toNat (fun c => y * ln_e i.toNat c)) x z k := fun x z k hx hz hk => by
        rw [ht3 (5 * x + z) k (by omega) hk, ht2 x z _ hx hz (by omega), ht2 x z _ hx hz hk]
        exact ch_scl ht hI5 ef x z k hk
      refine wp_c rfl (by omega) [0, 1, 5] (d_takeTable s0 s1 hT' (fun s' hs' => ?_)) rfl rfl rfl rfl
      refine wp_h (w_t0 s' h' r2 (pj_up f1 (6 * i).toNat a) t3 (if D = 6 then 6 else d + 1)) rfl ?_
      refine wp_g rfl (by omega) ?_
      have hok' := ch_ok ht (ch_u i.toNat (fun c => a * ln_e i.toNat c)) (ch_u i.toNat (fun c => y * ln_e i.toNat c))
      refine d_sc_cnt hp hN hs'.1 hs'.2.1 (fun q q1 q2 => ?_) (h1 i.toNat y s' h' _ _ _ (by omega) hI5 c1 (by omega) y1 y2 y3 hk hs') 25 0 _ _ (by omega) (by omega) rfl
      have e := hs'.2.2 ((q - 2) / 25) ((q - 2) / 5 % 5) ((q - 2) % 5) (by omega) (by omega) (by omega)
      rw [show 2 + 5 * (5 * ((q - 2) / 25) + (q - 2) / 5 % 5) + (q - 2) % 5 = q by omega] at e
      rw [e]
      exact hok'.2.2.2.1 _ _ _
    · rw [s0'] at c
      refine wp_b rfl (by omega) (fun c => absurd rfl c) (fun _ => ?_)
      exact wp_r rfl (by omega) (h0 (by omega))
  · refine wp_h (w_t0 s h r f t d) rfl ?_
    refine wp_b rfl (by omega) (fun _ => ?_) (fun c => absurd rfl c)
    exact wp_r rfl (by omega) (h0 (by omega))
theorem d_sw_loop {h r f t0 : Nat → Int} {d i j : Int} {I J : Nat} (hi : i = I) (hj : j = J) (hI : I < 5) (hJ : J < 5) (hne : I ≠ J)
    (hQ : ∀ (t : Nat → Int) (e v : pj_V), (∀ m k, m < 25 → k < 5 → t (5 * m + k) = t0 (5 * m + sx_s I J k)) → pj_WP X m_Mo_swapBasis 140 [.inr 0, .inl i, .inl j, e, v] [] (w_t0 s h r f t d) Q) :
    ∀ (n M : Nat) (t : Nat → Int) (m : Int) (v : pj_V), M + n = 25 → m = M → (∀ m k, m < 25 → k < 5 → t (5 * m + k) = if m < M then t0 (5 * m + sx_s I J k) else t0 (5 * m + k)) → pj_WP X m_Mo_swapBasis 84 [.inr 0, .inl i, .inl j, .inl m, v] [] (w_t0 s h r f t d) Q := by
  intro n
  induction n with
  | zero =>
    intro M t m v hM hm ht
    refine wp_b rfl (by omega) (fun c => ?_) (fun c => absurd c (by omega))
    refine hQ t _ _ (fun m k hm hk => ?_)
    rw [ht m k hm hk, if_pos (by omega)]
  | succ n ih =>
    intro M t m v hM hm ht
    have e1 : (5 * m + j).toNat = 5 * M + J := by omega
    have e2 : (5 * m + i).toNat = 5 * M + I := by omega
    have e3 : t (5 * M + J) = t0 (5 * M + J) := by rw [ht M J (by omega) hJ, if_neg (by omega)]
    have e4 : t (5 * M + I) = t0 (5 * M + I) := by rw [ht M I (by omega) hI, if_neg (by omega)]
    refine wp_b rfl (by omega) (fun c => absurd c (by omega)) (fun c => ?_)
    refine wp_g rfl (by omega) ?_
    rw [e1, e2, e3, e4]
    refine ih (M + 1) _ _ _ (by omega) (by omega) (fun q k hq hk => ?_)
    unfold pj_up
    by_cases e : 5 * q + k = 5 * M + J
    · have x1 : q = M := by omega
      have x2 : k = J := by omega
      subst x1 x2
      rw [if_pos rfl, if_pos (by omega)]
      unfold sx_s
      rw [if_neg (by omega), if_pos rfl]
    · rw [if_neg e]
      by_cases e5 : 5 * q + k = 5 * M + I
      · have x1 : q = M := by omega
        have x2 : k = I := by omega
        subst x1 x2
        rw [if_pos rfl, if_pos (by omega)]
        unfold sx_s
        rw [if_pos rfl]
      · rw [if_neg e5, ht q k hq hk]
        by_cases e9 : q < M
        · rw [if_pos e9, if_pos (by omega)]
        · rw [if_neg e9]
          by_cases e8 : q < M + 1
          · rw [if_pos e8]
            have es : sx_s I J k = k := by
              unfold sx_s
              rw [if_neg (by omega), if_neg (by omega)]
            rw [es]
          · rw [if_neg e8]
set_option maxHeartbeats 1000000 in
/-- swapBasis(i, j) -/
theorem d_swapBasis (ht : tt_ok p N T) (hs : st_m p N T s) {h r f t : Nat → Int} {d i j : Int} {D : Nat} (hd : d = D) (hD : D ≤ 6) (hi : pj_rg i) (hj : pj_rg j)
    (h0 : ¬ ((0 ≤ i ∧ i < N) ∧ (0 ≤ j ∧ j < N) ∧ i ≠ j) → Q (some (.inl (-1))) (w_t0 s h r f t d))
    (h1 : ∀ (I J : Nat) (s' h' r f t : Nat → Int), i = I → j = J → I < N → J < N → I ≠ J → kp_is D s h h' → st_m p N (ch_T p N T (ch_x I J) (ch_x I J)) s' → Q (some (.inl (nn_nm p N (ch_T p N T (ch_x I J) (ch_x I J) I J)))) (w_t0 s' h' r f t (if D = 6 then 6 else d + 1))) :
    pj_ci X m_Mo_swapBasis [.inr 0, .inl i, .inl j] (w_t0 s h r f t d) Q := by
  obtain ⟨hp, h1N, hN, hT, -⟩ := id ht
  obtain ⟨hp1, hp2, hp3⟩ := nn_p_pos hp
  obtain ⟨s0, s1, s2⟩ := id hs
  obtain ⟨i1, i2⟩ := id hi
  obtain ⟨j1, j2⟩ := id hj
  refine wp_c rfl (by omega) [0, 1] (d_isIndex hN s1 hi (fun a1 a2 => ?_) (fun a => ?_)) rfl rfl rfl rfl
  · refine wp_h (w_t0 s h r f t d) rfl ?_
    refine wp_b rfl (by omega) (fun c => absurd c (by omega)) (fun _ => ?_)
    refine wp_c rfl (by omega) [0, 1] (d_isIndex hN s1 hj (fun b1 b2 => ?_) (fun b => ?_)) rfl rfl rfl rfl
    · refine wp_h (w_t0 s h r f t d) rfl ?_
      refine wp_b rfl (by omega) (fun c => absurd c (by omega)) (fun _ => ?_)
      refine wp_b rfl (by omega) (fun hne => ?_) (fun c => ?_)
      · refine wp_c rfl (by omega) [0, 1, 2] (d_keep hd hD (fun h' hk => ?_)) rfl rfl rfl rfl
        refine wp_h (w_t0 s h' r f t (if D = 6 then 6 else d + 1)) rfl ?_
        refine wp_c rfl (by omega) [0, 4, 5] (d_beginChange (fun f1 t1 hf1 ht1 => ?_)) rfl rfl rfl rfl
        refine wp_h (w_t0 s h' r f1 t1 (if D = 6 then 6 else d + 1)) rfl ?_
        have hI5 : i.toNat < N := by omega
        have hJ5 : j.toNat < N := by omega
        have hIJ : i.toNat ≠ j.toNat := by omega
        have x1 : (6 * i).toNat = 6 * i.toNat := by omega
        have x2 : (6 * j).toNat = 6 * j.toNat := by omega
        have x3 : (5 * i + j).toNat = 5 * i.toNat + j.toNat := by omega
        have x4 : (5 * j + i).toNat = 5 * j.toNat + i.toNat := by omega
        have ef : ∀ x y, x < N → y < N → pj_up (pj_up (pj_up (pj_up f1 (6 * i.toNat) 0) (6 * j.toNat) 0) (5 * i.toNat + j.toNat) 1) (5 * j.toNat + i.toNat) 1 (5 * x + y) = ch_x i.toNat j.toNat x y := fun x y hx hy => by
          have hid := fr_id hf1 (show x < 5 by omega) (show y < 5 by omega)
          unfold ln_e at hid
          unfold pj_up ch_x ln_e
          by_cases e : x = j.toNat
          · rw [if_pos e]
            by_cases e2 : y = i.toNat
            · rw [if_pos (by omega), if_pos e2]
            · rw [if_neg (by omega), if_neg (by omega), if_neg e2]
              by_cases e3 : y = j.toNat
              · rw [if_pos (by omega)]
              · rw [if_neg (by omega), if_neg (by omega), hid, if_neg (by omega)]
          · rw [if_neg (show ¬ 5 * x + y = 5 * j.toNat + i.toNat by omega), if_neg e]
            by_cases e1 : x = i.toNat
            · rw [if_pos e1]
              by_cases e2 : y = j.toNat
              · rw [if_pos (by omega), if_pos e2]
              · rw [if_neg (by omega), if_neg (by omega), if_neg e2]
                by_cases e3 : y = i.toNat
                · rw [if_pos (by omega)]
                · rw [if_neg (by omega), hid, if_neg (by omega)]
            · rw [if_neg (show ¬ 5 * x + y = 5 * i.toNat + j.toNat by omega), if_neg (show ¬ 5 * x + y = 6 * j.toNat by omega), if_neg (show ¬ 5 * x + y = 6 * i.toNat by omega), if_neg e1]
              exact hid
        refine wp_c rfl (by omega) [0, 1, 3, 4, 5] (d_makeTable ht hs (f := pj_up (pj_up (pj_up (pj_up f1 (6 * i).toNat 0) (6 * j).toNat 0) (5 * i + j).toNat 1) (5 * j + i).toNat 1) (fun x y hx hy => by
          rw [x1, x2, x3, x4, ef x y hx hy]
          unfold ch_x
          by_cases e : x = j.toNat
          · rw [if_pos e]
            unfold ln_e
            split <;> omega
          · rw [if_neg e]
            by_cases e1 : x = i.toNat
            · rw [if_pos e1]
              unfold ln_e
              split <;> omega
            · rw [if_neg e1]
              unfold ln_e
              split <;> omega) ht1 (fun r2 t2 ht2 => ?_)) rfl rfl rfl rfl
        rw [x1, x2, x3, x4] at ht2
        refine wp_h (w_t0 s h' r2 (pj_up (pj_up (pj_up (pj_up f1 (6 * i).toNat 0) (6 * j).toNat 0) (5 * i + j).toNat 1) (5 * j + i).toNat 1) t2 (if D = 6 then 6 else d + 1)) rfl ?_
        refine wp_g rfl (by omega) ?_
        refine d_sw_loop (I := i.toNat) (J := j.toNat) (t0 := t2) (by omega) (by omega) (by omega) (by omega) hIJ (fun t3 e3 v3 ht3 => ?_) 25 0 _ _ _ (by omega) (by omega) (fun m k _ _ => by rw [if_neg (by omega)])
        have hT' : ∀ x y k, x < 5 → y < 5 → k < 5 → t3 (5 * (5 * x + y) + k) = ch_T p N T (ch_x i.toNat j.toNat) (ch_x i.toNat j.toNat) x y k := fun x y k hx hy hk => by
          have h5 : sx_s i.toNat j.toNat k < 5 := by unfold sx_s; split; omega; split <;> omega
          rw [ht3 (5 * x + y) k (by omega) hk, ht2 x y _ hx hy h5]
          exact ch_swp ht hI5 hJ5 hIJ ef x y k hk
        refine wp_c rfl (by omega) [0, 1, 5] (d_takeTable s0 s1 hT' (fun s' hs' => ?_)) rfl rfl rfl rfl
        refine wp_h (w_t0 s' h' r2 (pj_up (pj_up (pj_up (pj_up f1 (6 * i).toNat 0) (6 * j).toNat 0) (5 * i + j).toNat 1) (5 * j + i).toNat 1) t3 (if D = 6 then 6 else d + 1)) rfl ?_
        refine wp_c rfl (by omega) [] (d_at ?_) rfl rfl rfl rfl
        refine wp_h (w_t0 s' h' r2 (pj_up (pj_up (pj_up (pj_up f1 (6 * i).toNat 0) (6 * j).toNat 0) (5 * i + j).toNat 1) (5 * j + i).toNat 1) t3 (if D = 6 then 6 else d + 1)) rfl ?_
        refine wp_c rfl (by omega) [0, 1] (d_numberS (F := 2 + 5 * (5 * i.toNat + j.toNat)) hN hs'.1 hs'.2.1 (by omega) (by omega) ?_) rfl rfl rfl rfl
        have en : nn_nm p N (fun k => s' (2 + 5 * (5 * i.toNat + j.toNat) + k)) = nn_nm p N (ch_T p N T (ch_x i.toNat j.toNat) (ch_x i.toNat j.toNat) i.toNat j.toNat) := nn_nm_congr N (fun k hk => hs'.2.2 _ _ k (by omega) (by omega) (by omega))
        rw [en]
        exact wp_r rfl (by omega) (h1 i.toNat j.toNat s' h' _ _ _ (by omega) (by omega) hI5 hJ5 hIJ hk hs')
      · exact wp_r rfl (by omega) (h0 (by omega))
    · refine wp_h (w_t0 s h r f t d) rfl ?_
      refine wp_b rfl (by omega) (fun _ => ?_) (fun c => absurd rfl c)
      exact wp_r rfl (by omega) (h0 (by omega))
  · refine wp_h (w_t0 s h r f t d) rfl ?_
    refine wp_b rfl (by omega) (fun _ => ?_) (fun c => absurd rfl c)
    exact wp_r rfl (by omega) (h0 (by omega))
end CHM2
