/-! LieAlgebra: the changes of the basis, loadText -/
section LBS
variable {X : pj_X} {Q : pj_Q} {p n : Int} {N : Nat} {T : Nat → Nat → Nat → Int} {br : Nat → Int}
theorem tt_br_rg (hp : nn_p p) (hN : N ≤ 5) (hT : ∀ i j k, 0 ≤ T i j k ∧ T i j k < p) (hb : tt_br p N T br) : ∀ k, k < 25 → -2147483648 ≤ br k ∧ br k ≤ 2147483647 := by
  intro k hk
  have h := hb (k / 5) (k % 5) (by omega) (by omega)
  rw [show 5 * (k / 5) + k % 5 = k by omega] at h
  have h2 := nn_nm_rg (nn_p_pos hp).1 N (f := T (k / 5) (k % 5)) (fun c hc => hT _ _ c)
  have hpw := nn_pwle hp N hN
  omega
theorem rd_l_rg {f : Nat → Int} {L : Nat} (hp : nn_p p) (hN : N ≤ 5) : ∀ (m t G : Nat) (D : Nat → Int) (P : Nat), P ≤ L → G < 33554432 → -10 - (L : Int) ≤ (rd_l f L p N m t G D P).1 ∧ (rd_l f L p N m t G D P).1 ≤ (t : Int) + m := by
  intro m
  induction m with
  | zero =>
    intro t G D P hP hG
    show -10 - (L : Int) ≤ (t : Int) ∧ (t : Int) ≤ (t : Int) + ((0 : Nat) : Int)
    omega
  | succ m ih =>
    intro t G D P hP hG
    have ha := ri_a_ok (f := f) (D := D) hp hN hP hG
    have hpp := sc_p_rg f ha.1
    unfold rd_l
    by_cases e : (ri_a f L p N G D P).1 = true
    · rw [if_pos e]
      by_cases e2 : sc_c f L (ri_a f L p N G D P).2.1 = -1
      · rw [if_pos e2]
        constructor
        · show -10 - (L : Int) ≤ (t : Int) + 1
          omega
        · show (t : Int) + 1 ≤ _
          omega
      · rw [if_neg e2]
        have h9 := ih (t + 1) _ (ri_a f L p N G D P).2.2.2 _ hpp.2 ha.2
        omega
    · rw [if_neg e]
      constructor
      · show -10 - (L : Int) ≤ -10 - ((ri_a f L p N G D P).2.1 : Int)
        omega
      · show -10 - ((ri_a f L p N G D P).2.1 : Int) ≤ _
        omega
theorem l_addBasis (ht : tt_ok p N T) (hb : tt_br p N T br) (hn : n = N) {k i j a d1 d2 : Int} {D : Nat} {f dr nf ng : Nat → Int} (hk : k = D) (hD : D ≤ 6) (hi : pj_rg i) (hj : pj_rg j) (ha : pj_rg a)
    (h0 : ¬ ((0 ≤ i ∧ i < N) ∧ (0 ≤ j ∧ j < N) ∧ i ≠ j ∧ 1 ≤ a ∧ a < p) → Q (some (.inl (-1))) (w_Q p n br k f d1 d2 dr nf ng))
    (h1 : ∀ (I J : Nat) (br' dr nf ng : Nat → Int), i = I → j = J → I < N → J < N → I ≠ J → 1 ≤ a → a < p → tt_br p N (ch_T p N T (ch_u I (fun c => ln_e I c + a * ln_e J c)) (ch_u I (fun c => ln_e I c + (-a) * ln_e J c))) br' → Q (some (.inl (nn_nm p N (ch_T p N T (ch_u I (fun c => ln_e I c + a * ln_e J c)) (ch_u I (fun c => ln_e I c + (-a) * ln_e J c)) I J)))) (w_Q p n br' (if D = 6 then 6 else k + 1) (hk_f D f p n br) p n dr nf ng)) :
    pj_ci X m_Li_addBasis [.inr 0, .inl i, .inl j, .inl a] (w_Q p n br k f d1 d2 dr nf ng) Q := by
  obtain ⟨hp, h1N, hN, hT, -⟩ := id ht
  refine wp_c rfl (by omega) [1] (c_hasPair hi hj (by omega) (fun x1 x2 x3 => ?_) (fun x1 => ?_)) rfl rfl rfl rfl
  · refine wp_b rfl (by omega) (fun c => absurd c (by omega)) (fun _ => ?_)
    refine wp_c rfl (by omega) [1] (c_hasFactor hp ha (fun v1 v2 => ?_) (fun v1 => ?_)) rfl rfl rfl rfl
    · refine wp_b rfl (by omega) (fun _ => ?_) (fun c => absurd c (by omega))
      refine wp_c rfl (by omega) [0, 1, 2, 3, 4] (l_remember hk hD ?_) rfl rfl rfl rfl
      refine wp_h (w_Q p n br (if D = 6 then 6 else k + 1) (hk_f D f p n br) d1 d2 dr nf ng) rfl ?_
      refine wp_c rfl (by omega) [5, 1, 2, 6, 7, 8, 9] (c_Cadd ht hb hn (I := i.toNat) (J := j.toNat) (by omega) (by omega) (by omega) (by omega) ⟨v1, v2⟩ (fun br' dr nf ng hbr => ?_)) rfl rfl rfl rfl
      refine wp_h (w_Q p n br' (if D = 6 then 6 else k + 1) (hk_f D f p n br) p n dr nf ng) rfl ?_
      refine wp_c rfl (by omega) [1, 2] (c_entry (I := i.toNat) (J := j.toNat) (by omega) (by omega) (by omega) (by omega) ?_) rfl rfl rfl rfl
      rw [hbr i.toNat j.toNat (by omega) (by omega)]
      exact wp_r rfl (by omega) (h1 _ _ _ _ _ _ (by omega) (by omega) (by omega) (by omega) (by omega) v1 v2 hbr)
    · refine wp_b rfl (by omega) (fun c => absurd rfl c) (fun _ => ?_)
      exact wp_r rfl (by omega) (h0 (by omega))
  · refine wp_b rfl (by omega) (fun _ => ?_) (fun c => absurd rfl c)
    exact wp_r rfl (by omega) (h0 (by omega))
theorem l_scaleBasis (ht : tt_ok p N T) (hb : tt_br p N T br) (hn : n = N) {k i a d1 d2 : Int} {D : Nat} {f dr nf ng : Nat → Int} (hk : k = D) (hD : D ≤ 6) (hi : pj_rg i) (ha : pj_rg a)
    (h0 : ¬ ((0 ≤ i ∧ i < N) ∧ 1 ≤ a ∧ a < p) → Q (some (.inl (-1))) (w_Q p n br k f d1 d2 dr nf ng))
    (h1 : ∀ (I : Nat) (y : Int) (br' dr nf ng : Nat → Int), i = I → I < N → 1 ≤ a → a < p → 1 ≤ y → y < p → y * a % p = 1 → tt_br p N (ch_T p N T (ch_u I (fun c => a * ln_e I c)) (ch_u I (fun c => y * ln_e I c))) br' → Q (some (.inl (jc_cc br' N N))) (w_Q p n br' (if D = 6 then 6 else k + 1) (hk_f D f p n br) p n dr nf ng)) :
    pj_ci X m_Li_scaleBasis [.inr 0, .inl i, .inl a] (w_Q p n br k f d1 d2 dr nf ng) Q := by
  obtain ⟨hp, h1N, hN, hT, -⟩ := id ht
  refine wp_c rfl (by omega) [1] (c_hasIndex hi (by omega) (fun x1 x2 => ?_) (fun x1 => ?_)) rfl rfl rfl rfl
  · refine wp_b rfl (by omega) (fun c => absurd c (by omega)) (fun _ => ?_)
    refine wp_c rfl (by omega) [1] (c_hasFactor hp ha (fun v1 v2 => ?_) (fun v1 => ?_)) rfl rfl rfl rfl
    · refine wp_b rfl (by omega) (fun _ => ?_) (fun c => absurd c (by omega))
      refine wp_c rfl (by omega) [0, 1, 2, 3, 4] (l_remember hk hD ?_) rfl rfl rfl rfl
      refine wp_h (w_Q p n br (if D = 6 then 6 else k + 1) (hk_f D f p n br) d1 d2 dr nf ng) rfl ?_
      refine wp_c rfl (by omega) [5, 1, 2, 6, 7, 8, 9] (c_Cscale ht hb hn (I := i.toNat) (by omega) (by omega) ⟨v1, v2⟩ (fun br' dr nf ng y y1 y2 y3 hbr => ?_)) rfl rfl rfl rfl
      refine wp_h (w_Q p n br' (if D = 6 then 6 else k + 1) (hk_f D f p n br) p n dr nf ng) rfl ?_
      refine wp_c rfl (by omega) [1, 2] (c_pairs (tt_br_rg hp hN (ch_ok ht _ _).2.2.2.1 hbr) hN hn ?_) rfl rfl rfl rfl
      exact wp_r rfl (by omega) (h1 _ y _ _ _ _ (by omega) (by omega) v1 v2 y1 y2 y3 hbr)
    · refine wp_b rfl (by omega) (fun c => absurd rfl c) (fun _ => ?_)
      exact wp_r rfl (by omega) (h0 (by omega))
  · refine wp_b rfl (by omega) (fun _ => ?_) (fun c => absurd rfl c)
    exact wp_r rfl (by omega) (h0 (by omega))
theorem l_swapBasis (ht : tt_ok p N T) (hb : tt_br p N T br) (hn : n = N) {k i j d1 d2 : Int} {D : Nat} {f dr nf ng : Nat → Int} (hk : k = D) (hD : D ≤ 6) (hi : pj_rg i) (hj : pj_rg j)
    (h0 : ¬ ((0 ≤ i ∧ i < N) ∧ (0 ≤ j ∧ j < N) ∧ i ≠ j) → Q (some (.inl (-1))) (w_Q p n br k f d1 d2 dr nf ng))
    (h1 : ∀ (I J : Nat) (br' dr nf ng : Nat → Int), i = I → j = J → I < N → J < N → I ≠ J → tt_br p N (ch_T p N T (ch_x I J) (ch_x I J)) br' → Q (some (.inl (nn_nm p N (ch_T p N T (ch_x I J) (ch_x I J) I J)))) (w_Q p n br' (if D = 6 then 6 else k + 1) (hk_f D f p n br) p n dr nf ng)) :
    pj_ci X m_Li_swapBasis [.inr 0, .inl i, .inl j] (w_Q p n br k f d1 d2 dr nf ng) Q := by
  obtain ⟨hp, h1N, hN, hT, -⟩ := id ht
  refine wp_c rfl (by omega) [1] (c_hasPair hi hj (by omega) (fun x1 x2 x3 => ?_) (fun x1 => ?_)) rfl rfl rfl rfl
  · refine wp_b rfl (by omega) (fun _ => ?_) (fun c => absurd c (by omega))
    refine wp_c rfl (by omega) [0, 1, 2, 3, 4] (l_remember hk hD ?_) rfl rfl rfl rfl
    refine wp_h (w_Q p n br (if D = 6 then 6 else k + 1) (hk_f D f p n br) d1 d2 dr nf ng) rfl ?_
    refine wp_c rfl (by omega) [5, 1, 2, 6, 7, 8, 9] (c_Cexchange ht hb hn (I := i.toNat) (J := j.toNat) (by omega) (by omega) (by omega) (by omega) (fun br' dr nf ng hbr => ?_)) rfl rfl rfl rfl
    refine wp_h (w_Q p n br' (if D = 6 then 6 else k + 1) (hk_f D f p n br) p n dr nf ng) rfl ?_
    refine wp_c rfl (by omega) [1, 2] (c_entry (I := i.toNat) (J := j.toNat) (by omega) (by omega) (by omega) (by omega) ?_) rfl rfl rfl rfl
    rw [hbr i.toNat j.toNat (by omega) (by omega)]
    exact wp_r rfl (by omega) (h1 _ _ _ _ _ _ (by omega) (by omega) (by omega) (by omega) (by omega) hbr)
  · refine wp_b rfl (by omega) (fun c => absurd rfl c) (fun _ => ?_)
    exact wp_r rfl (by omega) (h0 (by omega))
theorem l_loadText (ht : tt_ok p N T) (hn : n = N) {k l q g d1 d2 : Int} {D L : Nat} {f ft dr : Nat → Int} (hk : k = D) (hD : D ≤ 6) (hf : ∀ k, k < 120 → 0 ≤ ft k ∧ ft k ≤ 255) (hL : L ≤ 120) (hl : l = L)
    (h0 : ∀ (q g : Int) (D1 dr' : Nat → Int), D1 = va_cpy br dr 0 0 25 → (rd_l ft L p N 120 0 0 D1 0).1 < 0 → Q (some (.inl (rd_l ft L p N 120 0 0 D1 0).1)) (w_L p n br k f l q g ft p n dr'))
    (h1 : ∀ (q g : Int) (D1 dr' : Nat → Int), D1 = va_cpy br dr 0 0 25 → 0 ≤ (rd_l ft L p N 120 0 0 D1 0).1 → Q (some (.inl (rd_l ft L p N 120 0 0 D1 0).1)) (w_L p n (va_cpy (rd_l ft L p N 120 0 0 D1 0).2 br 0 0 25) (if D = 6 then 6 else k + 1) (hk_f D f p n br) 0 q g ft p n dr')) :
    pj_ci X m_Li_loadText [.inr 0] (w_L p n br k f l q g ft d1 d2 dr) Q := by
  obtain ⟨hp, h1N, hN, hT, -⟩ := id ht
  refine wp_c rfl (by omega) [5, 6, 7, 8, 1, 2] (c_read hp h1N hN hn hf hL hl (fun q g => ?_)) rfl rfl rfl rfl
  have hr := rd_l_rg (f := ft) hp hN 120 0 0 (va_cpy br dr 0 0 25) 0 (by omega : 0 ≤ L) (by omega)
  refine wp_h (w_L p n br k f l q g ft p n (rd_l ft L p N 120 0 0 (va_cpy br dr 0 0 25) 0).2) rfl ?_
  refine wp_b rfl (by omega) (fun c => ?_) (fun c => ?_)
  · refine wp_c rfl (by omega) [0, 1, 2, 3, 4] (l_remember hk hD ?_) rfl rfl rfl rfl
    refine wp_h (w_L p n br (if D = 6 then 6 else k + 1) (hk_f D f p n br) l q g ft p n (rd_l ft L p N 120 0 0 (va_cpy br dr 0 0 25) 0).2) rfl ?_
    refine wp_c rfl (by omega) [1, 2, 7, 8] (c_copyFrom ?_) rfl rfl rfl rfl
    exact wp_r rfl (by omega) (h1 _ _ _ _ rfl c)
  · exact wp_r rfl (by omega) (h0 _ _ _ _ rfl (by omega))
end LBS
