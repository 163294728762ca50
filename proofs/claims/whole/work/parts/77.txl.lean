/-! THE MODEL's text: loadText, held against the class's reader -/
abbrev o_lt (d l q e : Int) : pj_C := .inr (8, [.inl 0, .inr 1, .inr 2, .inl d, v_u, v_u, .inr 3, .inl l, v_u, v_u, v_u, .inl q, .inl e, .inr 4, .inr 5, v_u, v_u, v_u, v_u, v_u, v_u, v_u, v_u, v_u, v_u, v_u, v_u, v_u])
abbrev w_lt (s h f ig gv : Nat → Int) (d l q e : Int) : List pj_C := [o_lt d l q e, c_A 127 s, c_A 762 h, c_A 120 f, c_Z 25 ig, c_A 125 gv]
section TXL
variable {X : pj_X} {Q : pj_Q} {p : Int} {N : Nat} {T : Nat → Nat → Nat → Int} {s : Nat → Int}
/-- the table with what is given -/
def gv_T (p : Int) (N : Nat) (T : Nat → Nat → Nat → Int) (ig gv : Nat → Int) (I J k : Nat) : Int := if I < N ∧ J < N ∧ k < N then (if ig (5 * I + J) = 1 then gv (5 * (5 * I + J) + k) else if ig (5 * J + I) = 1 then (-(gv (5 * (5 * J + I) + k))) % p else T I J k) else 0
/-- what stands between two items -/
def lt_ok (p : Int) (N : Nat) (T : Nat → Nat → Nat → Int) (G : Nat) (D ig gv : Nat → Int) : Prop := ig_ok G ig ∧ (∀ I J k, I < 5 → J < 5 → k < 5 → ig (5 * I + J) = 0 → gv (5 * (5 * I + J) + k) = 0) ∧ (∀ I J, I < 5 → J < 5 → ig (5 * I + J) = 1 → I < N ∧ J < N ∧ I ≠ J ∧ ig (5 * J + I) = 0 ∧ gr_w p N (5 * (5 * I + J)) gv) ∧ tt_br p N (gv_T p N T ig gv) D
theorem gv_T_ok (ht : tt_ok p N T) {G : Nat} {D ig gv : Nat → Int} (h : lt_ok p N T G D ig gv) : tt_ok p N (gv_T p N T ig gv) := by
  obtain ⟨hp, h1N, hN, hT, h0, ha, hd⟩ := id ht
  have hp1 := (nn_p_pos hp).1
  obtain ⟨g1, g2, g3, g4⟩ := h
  refine ⟨hp, h1N, hN, fun i j k => ?_, fun i j k hn => ?_, fun i j k => ?_, fun i k => ?_⟩
  · unfold gv_T
    by_cases hc : i < N ∧ j < N ∧ k < N
    · rw [if_pos hc]
      by_cases e1 : ig (5 * i + j) = 1
      · rw [if_pos e1]
        exact (g3 i j (by omega) (by omega) e1).2.2.2.2.1 k hc.2.2
      · rw [if_neg e1]
        by_cases e2 : ig (5 * j + i) = 1
        · rw [if_pos e2]
          exact ⟨Int.emod_nonneg _ (by omega), Int.emod_lt_of_pos _ hp1⟩
        · rw [if_neg e2]
          exact hT i j k
    · rw [if_neg hc]
      exact ⟨Int.le_refl 0, hp1⟩
  · unfold gv_T
    rw [if_neg (by omega)]
  · unfold gv_T
    by_cases hc : i < N ∧ j < N ∧ k < N
    · rw [if_pos hc, if_pos (show j < N ∧ i < N ∧ k < N from ⟨hc.2.1, hc.1, hc.2.2⟩)]
      by_cases e1 : ig (5 * i + j) = 1
      · have e2 := (g3 i j (by omega) (by omega) e1).2.2.2.1
        rw [if_neg (show ¬ ig (5 * j + i) = 1 by omega), if_pos e1, if_pos e1]
        exact nn_eq_mod p _
      · by_cases e2 : ig (5 * j + i) = 1
        · rw [if_pos e2, if_neg e1, if_pos e2]
          have h9 := nn_eq_mul (nn_eq_rfl p (-1)) (nn_eq_mod p (-(gv (5 * (5 * j + i) + k))))
          rw [Int.neg_mul, Int.neg_mul, Int.one_mul, Int.one_mul, Int.neg_neg] at h9
          exact nn_eq_symm h9
        · rw [if_neg e2, if_neg e1, if_neg e1, if_neg e2]
          exact ha i j k
    · rw [if_neg hc, if_neg (fun z => hc ⟨z.2.1, z.1, z.2.2⟩)]
      exact nn_eq_rfl p 0
  · unfold gv_T
    by_cases hc : i < N ∧ i < N ∧ k < N
    · have e1 : ¬ ig (5 * i + i) = 1 := fun z => (g3 i i (by omega) (by omega) z).2.2.1 rfl
      rw [if_pos hc, if_neg e1, if_neg e1]
      exact hd i k
    · rw [if_neg hc]
set_option maxHeartbeats 1000000 in
/-- an item more -/
theorem lt_next (ht : tt_ok p N T) {G I J : Nat} {D ig gv gv' : Nat → Int} (h : lt_ok p N T G D ig gv) (hI : I < N) (hJ : J < N) (hne : I ≠ J) (hb : G.testBit (bt_p I J) = false) (hgw : gr_w p N (5 * (5 * I + J)) gv') (hout : ∀ q, (q < 5 * (5 * I + J) ∨ 5 * (5 * I + J) + 5 ≤ q) → gv' q = gv q) :
    lt_ok p N T (G ||| 2 ^ bt_p I J) (ri_s p N I J (nn_nm p N (fun k => gv' (5 * (5 * I + J) + k))) D) (pj_up ig (5 * I + J) 1) gv' := by
  obtain ⟨hp, h1N, hN, hT, h0, ha, hd⟩ := id ht
  have hp1 := (nn_p_pos hp).1
  obtain ⟨⟨g0, g1⟩, g2, g3, g4⟩ := h
  obtain ⟨z1, z2⟩ := (g1 I J (by omega) (by omega)).mp hb
  have eig : ∀ a b, a < 5 → b < 5 → pj_up ig (5 * I + J) 1 (5 * a + b) = if a = I ∧ b = J then 1 else ig (5 * a + b) := fun a b ha hb => by
    unfold pj_up
    by_cases e : a = I ∧ b = J
    · rw [if_pos e, if_pos (by omega)]
    · rw [if_neg e, if_neg (by omega)]
  have egv : ∀ a b k, a < 5 → b < 5 → k < 5 → ¬ (a = I ∧ b = J) → gv' (5 * (5 * a + b) + k) = gv (5 * (5 * a + b) + k) := fun a b k ha hb hk hn => hout _ (by omega)
  have eig0 : ∀ k, k < 25 → pj_up ig (5 * I + J) 1 k = 0 ∨ pj_up ig (5 * I + J) 1 k = 1 := fun k hk => by
    unfold pj_up
    split
    · exact Or.inr rfl
    · exact g0 k hk
  revert eig eig0
  generalize pj_up ig (5 * I + J) 1 = ig'
  intro eig eig0
  refine ⟨⟨eig0, fun a b ha5 hb5 => ?_⟩, fun a b k ha5 hb5 hk h9 => ?_, fun a b ha5 hb5 h9 => ?_, fun a b ha5 hb5 => ?_⟩
  · rw [bt_or, eig a b ha5 hb5, eig b a hb5 ha5, Bool.or_eq_false_iff, g1 a b ha5 hb5, decide_eq_false_iff_not, bt_p_inj (show I < 5 by omega) (show J < 5 by omega) ha5 hb5]
    by_cases e1 : a = I ∧ b = J
    · rw [if_pos e1]
      constructor
      · rintro ⟨-, z⟩
        exact absurd (Or.inl ⟨e1.1.symm, e1.2.symm⟩) z
      · rintro ⟨z, -⟩
        omega
    · by_cases e2 : b = I ∧ a = J
      · rw [if_neg e1, if_pos e2]
        constructor
        · rintro ⟨-, z⟩
          exact absurd (Or.inr ⟨e2.1.symm, e2.2.symm⟩) z
        · rintro ⟨-, z⟩
          omega
      · rw [if_neg e1, if_neg e2]
        exact ⟨fun z => z.1, fun z => ⟨z, by omega⟩⟩
  · rw [eig a b ha5 hb5] at h9
    by_cases e1 : a = I ∧ b = J
    · rw [if_pos e1] at h9; omega
    · rw [if_neg e1] at h9
      rw [egv a b k ha5 hb5 hk e1]
      exact g2 a b k ha5 hb5 hk h9
  · rw [eig a b ha5 hb5] at h9
    by_cases e1 : a = I ∧ b = J
    · obtain ⟨rfl, rfl⟩ := e1
      refine ⟨hI, hJ, hne, ?_, hgw⟩
      rw [eig b a hb5 ha5, if_neg (by omega)]
      exact z2
    · rw [if_neg e1] at h9
      obtain ⟨q1, q2, q3, q4, q5⟩ := g3 a b ha5 hb5 h9
      have e2 : ¬ (b = I ∧ a = J) := fun z => by
        obtain ⟨rfl, rfl⟩ := z
        omega
      refine ⟨q1, q2, q3, ?_, fun k hk => ?_, fun k hk hk5 => ?_⟩
      · rw [eig b a hb5 ha5, if_neg e2]
        exact q4
      · rw [egv a b k ha5 hb5 (by omega) e1]
        exact q5.1 k hk
      · rw [egv a b k ha5 hb5 hk5 e1]
        exact q5.2 k hk hk5
  · have hv := nn_nm_rg hp1 N (f := fun k => gv' (5 * (5 * I + J) + k)) hgw.1
    unfold ri_s pj_up
    by_cases e1 : a = J ∧ b = I
    · obtain ⟨rfl, rfl⟩ := e1
      rw [if_pos rfl]
      refine nn_nm_congr N (fun k hk => ?_)
      rw [nn_dg_0 hp1, nn_dg_nm hp1 N hgw.1 k hk, Int.zero_add, Int.neg_mul, Int.one_mul]
      unfold gv_T
      have ei := eig a b ha5 hb5
      have ei2 := eig b a hb5 ha5
      rw [if_neg (show ¬ (a = b ∧ b = a) from fun z => hne z.2)] at ei
      rw [if_pos (show b = b ∧ a = a from ⟨rfl, rfl⟩)] at ei2
      rw [if_pos (show a < N ∧ b < N ∧ k < N from ⟨hJ, hI, hk⟩)]
      simp only [ei, ei2]
      rw [if_neg (show ¬ ig (5 * a + b) = 1 by omega)]
      rfl
    · rw [if_neg (by omega)]
      by_cases e2 : a = I ∧ b = J
      · obtain ⟨rfl, rfl⟩ := e2
        rw [if_pos rfl]
        refine nn_nm_congr N (fun k hk => ?_)
        unfold gv_T
        have ei := eig a b ha5 hb5
        rw [if_pos (show a = a ∧ b = b from ⟨rfl, rfl⟩)] at ei
        rw [if_pos (show a < N ∧ b < N ∧ k < N from ⟨hI, hJ, hk⟩)]
        simp only [ei]
        rfl
      · rw [if_neg (by omega), g4 a b ha5 hb5]
        refine nn_nm_congr N (fun k hk => ?_)
        unfold gv_T
        have ei := eig a b ha5 hb5
        have ei2 := eig b a hb5 ha5
        rw [if_neg e2] at ei
        rw [if_neg (show ¬ (b = I ∧ a = J) from fun z => e1 ⟨z.2, z.1⟩)] at ei2
        simp only [ei, ei2]
        by_cases hc : a < N ∧ b < N ∧ k < N
        · rw [if_pos hc, if_pos hc, egv a b k ha5 hb5 (by omega) e2, egv b a k hb5 ha5 (by omega) (fun z => e1 ⟨z.2, z.1⟩)]
        · rw [if_neg hc, if_neg hc]
theorem lt_none (ht : tt_ok p N T) {D ig gv : Nat → Int} (hig : ∀ k, k < 25 → ig k = 0) (hgv : ∀ k, k < 125 → gv k = 0) (hD : tt_br p N T D) : lt_ok p N T 0 D ig gv := by
  obtain ⟨hp, h1N, hN, hT, h0, ha, hd⟩ := id ht
  refine ⟨⟨fun k hk => Or.inl (hig k hk), fun I J hI hJ => ⟨fun _ => ⟨hig _ (by omega), hig _ (by omega)⟩, fun _ => Nat.zero_testBit _⟩⟩, fun I J k hI hJ hk _ => hgv _ (by omega), fun I J hI hJ h => by rw [hig _ (by omega)] at h; omega, fun I J hI hJ => ?_⟩
  rw [hD I J hI hJ]
  refine nn_nm_congr N (fun k hk => ?_)
  unfold gv_T
  by_cases hc : I < N ∧ J < N ∧ k < N
  · rw [if_pos hc, hig _ (by omega), hig _ (by omega), if_neg (by omega), if_neg (by omega)]
  · rw [if_neg hc]
    exact h0 I J k (by omega)
theorem d_lt_reset {h f : Nat → Int} {d l q e : Int}
    (hQ : ∀ (ig gv : Nat → Int) (d1 : pj_V), (∀ k, k < 25 → ig k = 0) → (∀ k, k < 125 → gv k = 0) → pj_WP X m_Mo_loadText 46 [.inr 0, d1, v_u] [] (w_lt s h f ig gv d l q e) Q) :
    ∀ (m K : Nat) (ig gv : Nat → Int) (k : Int), K + m = 125 → k = K → (∀ j, 5 * j < K → ig j = 0) → (∀ j, j < K → gv j = 0) → pj_WP X m_Mo_loadText 18 [.inr 0, .inl k, v_u] [] (w_lt s h f ig gv d l q e) Q := by
  intro m
  induction m with
  | zero =>
    intro K ig gv k hK hk h1 h2
    refine wp_b rfl (by omega) (fun c => ?_) (fun c => absurd c (by omega))
    exact hQ ig gv _ (fun j hj => h1 j (by omega)) (fun j hj => h2 j (by omega))
  | succ m ih =>
    intro K ig gv k hK hk h1 h2
    have ek : k.toNat = K := by omega
    have ed : k.tdiv 5 = ((K / 5 : Nat) : Int) := by rw [Int.tdiv_eq_ediv_of_nonneg (by omega)]; omega
    refine wp_b rfl (by omega) (fun c => absurd c (by omega)) (fun c => ?_)
    refine wp_g rfl (by rw [ed]; omega) ?_
    rw [ek, ed, Int.toNat_natCast]
    refine ih (K + 1) _ _ _ (by omega) (by omega) (fun j hj => ?_) (fun j hj => ?_)
    · unfold pj_up
      by_cases e9 : j = K / 5
      · rw [if_pos e9]
      · rw [if_neg e9]
        exact h1 j (by omega)
    · unfold pj_up
      by_cases e9 : j = K
      · rw [if_pos e9]
      · rw [if_neg e9]
        exact h2 j (by omega)
/-- the pairs that are laid into the table -/
def lt_T (p : Int) (T : Nat → Nat → Nat → Int) (ig gv : Nat → Int) (K I J k : Nat) : Int := if ig (5 * I + J) = 1 ∧ 5 * I + J < K then gv (5 * (5 * I + J) + k) else if ig (5 * J + I) = 1 ∧ 5 * J + I < K then (-(gv (5 * (5 * J + I) + k))) % p else T I J k
theorem d_lt_lay (ht : tt_ok p N T) {h f ig gv D : Nat → Int} {G : Nat} {d l q e it : Int} (hlt : lt_ok p N T G D ig gv)
    (hQ : ∀ s', st_m p N (gv_T p N T ig gv) s' → Q (some (.inl it)) (w_lt s' h f ig gv d 0 q e)) :
    ∀ (m K : Nat) (s' : Nat → Int) (k : Int), K + m = 25 → k = K → st_m p N (lt_T p T ig gv K) s' → pj_WP X m_Mo_loadText 90 [.inr 0, .inl it, .inl k] [] (w_lt s' h f ig gv d l q e) Q := by
  obtain ⟨hp, h1N, hN, hT, h0, ha, hd⟩ := id ht
  have hp1 := (nn_p_pos hp).1
  obtain ⟨g1, g2, g3, g4⟩ := id hlt
  intro m
  induction m with
  | zero =>
    intro K s' k hK hk hs
    refine wp_b rfl (by omega) (fun c => ?_) (fun c => absurd c (by omega))
    refine wp_r rfl (by omega) (hQ s' (st_m_ext hs (fun a b c ha5 hb5 hc => ?_)))
    unfold lt_T gv_T
    by_cases e1 : ig (5 * a + b) = 1
    · obtain ⟨q1, q2, q3, q4, q5⟩ := g3 a b ha5 hb5 e1
      rw [if_pos ⟨e1, by omega⟩]
      by_cases hcN : c < N
      · rw [if_pos (show a < N ∧ b < N ∧ c < N from ⟨q1, q2, hcN⟩), if_pos e1]
      · rw [if_neg (show ¬ (a < N ∧ b < N ∧ c < N) by omega)]
        exact q5.2 c (by omega) hc
    · rw [if_neg (fun z => e1 z.1)]
      by_cases e2 : ig (5 * b + a) = 1
      · obtain ⟨q1, q2, q3, q4, q5⟩ := g3 b a hb5 ha5 e2
        rw [if_pos ⟨e2, by omega⟩]
        by_cases hcN : c < N
        · rw [if_pos (show a < N ∧ b < N ∧ c < N from ⟨q2, q1, hcN⟩), if_neg e1, if_pos e2]
        · rw [if_neg (show ¬ (a < N ∧ b < N ∧ c < N) by omega), q5.2 c (by omega) hc]
          show (0 : Int) % p = 0
          exact Int.zero_emod p
      · rw [if_neg (fun z => e2 z.1)]
        by_cases hcN : a < N ∧ b < N ∧ c < N
        · rw [if_pos hcN, if_neg e1, if_neg e2]
        · rw [if_neg hcN]
          exact h0 a b c (by omega)
  | succ m ih =>
    intro K s' k hK hk hs
    have ek : k.toNat = K := by omega
    have ed : k.tdiv 5 = ((K / 5 : Nat) : Int) := by rw [Int.tdiv_eq_ediv_of_nonneg (by omega)]; omega
    have em : k.tmod 5 = ((K % 5 : Nat) : Int) := by rw [Int.tmod_eq_emod_of_nonneg (by omega)]; omega
    have hgk := g1.1 K (by omega)
    have e5 : 5 * (K / 5) + K % 5 = K := by omega
    refine wp_b rfl (by omega) (fun c => absurd c (by omega)) (fun c => ?_)
    refine wp_b rfl (by rw [ek]; omega) (fun c => ?_) (fun c => ?_)
    · rw [ek] at c
      refine wp_g rfl (by omega) ?_
      refine ih (K + 1) s' _ (by omega) (by omega) (st_m_ext hs (fun a b r ha5 hb5 hr => ?_))
      unfold lt_T
      by_cases e1 : ig (5 * a + b) = 1 ∧ 5 * a + b < K
      · rw [if_pos e1, if_pos ⟨e1.1, by omega⟩]
      · have e1' : ¬ (ig (5 * a + b) = 1 ∧ 5 * a + b < K + 1) := fun z => by
          by_cases e : 5 * a + b = K
          · rw [e] at z; omega
          · exact e1 ⟨z.1, by omega⟩
        rw [if_neg e1, if_neg e1']
        by_cases e2 : ig (5 * b + a) = 1 ∧ 5 * b + a < K
        · rw [if_pos e2, if_pos ⟨e2.1, by omega⟩]
        · have e2' : ¬ (ig (5 * b + a) = 1 ∧ 5 * b + a < K + 1) := fun z => by
            by_cases e : 5 * b + a = K
            · rw [e] at z; omega
            · exact e2 ⟨z.1, by omega⟩
          rw [if_neg e2, if_neg e2']
    · rw [ek] at c
      have hig : ig (5 * (K / 5) + K % 5) = 1 := by rw [e5]; omega
      obtain ⟨q1, q2, q3, q4, q5⟩ := g3 (K / 5) (K % 5) (by omega) (by omega) hig
      rw [e5] at q5
      refine wp_c rfl (by omega) [0, 1, 5] (d_setPair (F := 5 * K) (I := K / 5) (J := K % 5) (by omega) hp hs (by omega) (by omega) ed em (by omega) (by omega) q3 (fun r hr => ?_) (fun s2 hs2 => ?_)) rfl rfl rfl rfl
      · by_cases hrN : r < N
        · exact q5.1 r hrN
        · rw [q5.2 r (by omega) hr]
          exact ⟨Int.le_refl 0, hp1⟩
      · refine wp_h (w_lt s2 h f ig gv d l q e) rfl ?_
        refine wp_g rfl (by omega) ?_
        refine ih (K + 1) s2 _ (by omega) (by omega) (st_m_ext hs2 (fun a b r ha5 hb5 hr => ?_))
        unfold tt_set lt_T
        by_cases e1 : a = K / 5 ∧ b = K % 5
        · obtain ⟨rfl, rfl⟩ := e1
          rw [if_pos ⟨rfl, rfl⟩, if_pos ⟨hig, by omega⟩, e5]
        · rw [if_neg e1]
          by_cases e2 : a = K % 5 ∧ b = K / 5
          · obtain ⟨rfl, rfl⟩ := e2
            rw [if_pos ⟨rfl, rfl⟩, if_neg (fun z => by omega), if_pos ⟨hig, by omega⟩, e5]
          · rw [if_neg e2]
            by_cases e3 : ig (5 * a + b) = 1 ∧ 5 * a + b < K
            · rw [if_pos e3, if_pos ⟨e3.1, by omega⟩]
            · have e3' : ¬ (ig (5 * a + b) = 1 ∧ 5 * a + b < K + 1) := fun z => e3 ⟨z.1, by omega⟩
              rw [if_neg e3, if_neg e3']
              by_cases e4 : ig (5 * b + a) = 1 ∧ 5 * b + a < K
              · rw [if_pos e4, if_pos ⟨e4.1, by omega⟩]
              · have e4' : ¬ (ig (5 * b + a) = 1 ∧ 5 * b + a < K + 1) := fun z => e4 ⟨z.1, by omega⟩
                rw [if_neg e4, if_neg e4']
/-- where loadText comes to its end -/
theorem d_lt_end (ht : tt_ok p N T) (hs : st_m p N T s) {h f ig gv D : Nat → Int} {G DD : Nat} {d l q it : Int} (hd : d = DD) (hDD : DD ≤ 6) (hlt : lt_ok p N T G D ig gv)
    (hQ : ∀ (TT : Nat → Nat → Nat → Int) (s' h' : Nat → Int), tt_ok p N TT → tt_br p N TT D → st_m p N TT s' → kp_is DD s h h' → Q (some (.inl it)) (w_lt s' h' f ig gv (if DD = 6 then 6 else d + 1) 0 q (-9))) : pj_WP X m_Mo_loadText 70 [.inr 0, .inl it, v_u] [.inr 0] (w_lt s h f ig gv d l q (-9)) Q := by
  refine wp_c rfl (by omega) [0] (d_fine ?_) rfl rfl rfl rfl
  refine wp_h (w_lt s h f ig gv d l q (-9)) rfl ?_
  refine wp_b rfl (by omega) (fun _ => ?_) (fun c => absurd c (by omega))
  refine wp_c rfl (by omega) [0, 1, 2] (d_keep hd hDD (fun h' hk => ?_)) rfl rfl rfl rfl
  refine wp_h (w_lt s h' f ig gv (if DD = 6 then 6 else d + 1) l q (-9)) rfl ?_
  refine wp_g rfl (by omega) ?_
  refine d_lt_lay ht hlt (fun s' hs' => hQ _ s' h' (gv_T_ok ht hlt) hlt.2.2.2 hs' hk) 25 0 s _ (by omega) (by omega) (st_m_ext hs (fun a b c _ _ _ => ?_))
  unfold lt_T
  rw [if_neg (fun z => by omega), if_neg (fun z => by omega)]
set_option maxHeartbeats 1000000 in
theorem d_lt_loop (ht : tt_ok p N T) (hs : st_m p N T s) {h f : Nat → Int} {L DD : Nat} {d l : Int} {R0 : Int × (Nat → Int)} (hf : ∀ k, k < 120 → 0 ≤ f k ∧ f k ≤ 255) (hL : L ≤ 120) (hl : l = L) (hd : d = DD) (hDD : DD ≤ 6)
    (hQ1 : ∀ (TT : Nat → Nat → Nat → Int) (s' h' ig gv : Nat → Int) (q e : Int), 0 ≤ R0.1 → tt_ok p N TT → tt_br p N TT R0.2 → st_m p N TT s' → kp_is DD s h h' → Q (some (.inl R0.1)) (w_lt s' h' f ig gv (if DD = 6 then 6 else d + 1) 0 q e))
    (hQ0 : ∀ (ig gv : Nat → Int) (q e : Int), R0.1 < 0 → Q (some (.inl R0.1)) (w_lt s h f ig gv d l q e)) :
    ∀ (m t P G : Nat) (D ig gv : Nat → Int) (q it : Int), t + (m + 1) = 120 → t ≤ P → P ≤ L → q = P → it = t → lt_ok p N T G D ig gv → rd_l f L p N (m + 1) t G D P = R0 → pj_WP X m_Mo_loadText 48 [.inr 0, .inl it, v_u] [] (w_lt s h f ig gv d l q (-9)) Q := by
  obtain ⟨hp, h1N, hN, hT, -⟩ := id ht
  obtain ⟨s0, s1, -⟩ := id hs
  intro m
  induction m with
  | zero =>
    intro t P G D ig gv q it htm htP hP hq hit hlt hR
    unfold rd_l at hR
    unfold rd_l at hR
    refine wp_c rfl (by omega) [0, 1, 3, 4, 5] (d_readItem (D := D) (G := G) (P := P) hp h1N hN s0 s1 hf hL hl hP hq hlt.1 hlt.2.1 (fun P2 I J gv' hP2 hmono hI hJ hne hb hgw hout hri => ?_) (fun E P2 ig' gv' hE hP2 h1 h2 => ?_)) rfl rfl rfl rfl
    · rw [hri] at hR
      have hpp := sc_p_rg f hP2
      have hr := sc_c_rg hf (P := P2) hL
      rw [if_pos rfl] at hR
      have hnext := lt_next ht hlt hI hJ hne hb hgw hout
      refine wp_h (w_lt s h f (pj_up ig (5 * I + J) 1) gv' d l (P2 : Int) (-9)) rfl ?_
      refine wp_c rfl (by omega) [0] (d_fine ?_) rfl rfl rfl rfl
      refine wp_h (w_lt s h f (pj_up ig (5 * I + J) 1) gv' d l (P2 : Int) (-9)) rfl ?_
      refine wp_b rfl (by omega) (fun c => absurd c (by omega)) (fun _ => ?_)
      refine wp_c rfl (by omega) [0, 3] (d_current hf hL hl hP2 rfl ?_) rfl rfl rfl rfl
      refine wp_h (w_lt s h f (pj_up ig (5 * I + J) 1) gv' d l ((sc_p f L P2 : Nat) : Int) (-9)) rfl ?_
      have hend : sc_c f L P2 = -1 := by
        unfold sc_c
        rw [if_neg (by omega)]
      refine wp_b rfl (by omega) (fun c => absurd c (by omega)) (fun _ => ?_)
      refine wp_g rfl (by omega) ?_
      rw [if_pos hend] at hR
      have e1 : it + 1 = R0.1 := by rw [← hR]; show it + 1 = (t : Int) + 1; omega
      have e2 : ri_s p N I J (nn_nm p N (fun k => gv' (5 * (5 * I + J) + k))) D = R0.2 := by rw [← hR]
      rw [e1]
      rw [e2] at hnext
      exact d_lt_end ht hs hd hDD hnext (fun TT s' h' a1 a2 a3 a4 => hQ1 TT s' h' _ _ _ _ (by omega) a1 a2 a3 a4)
    · rw [if_neg (by rw [h1]; exact Bool.false_ne_true)] at hR
      have e1 : -10 - (E : Int) = R0.1 := by rw [← hR, h2]
      refine wp_h (w_lt s h f ig' gv' d l (P2 : Int) (E : Int)) rfl ?_
      refine wp_c rfl (by omega) [0] (d_unfine (by omega) ?_) rfl rfl rfl rfl
      refine wp_h (w_lt s h f ig' gv' d l (P2 : Int) (E : Int)) rfl ?_
      refine wp_b rfl (by omega) (fun _ => ?_) (fun c => absurd rfl c)
      refine wp_c rfl (by omega) [0] (d_unfine (by omega) ?_) rfl rfl rfl rfl
      refine wp_h (w_lt s h f ig' gv' d l (P2 : Int) (E : Int)) rfl ?_
      refine wp_b rfl (by omega) (fun c => absurd rfl c) (fun _ => ?_)
      refine wp_r rfl (by omega) ?_
      rw [e1]
      exact hQ0 _ _ _ _ (by omega)
  | succ m ih =>
    intro t P G D ig gv q it htm htP hP hq hit hlt hR
    unfold rd_l at hR
    refine wp_c rfl (by omega) [0, 1, 3, 4, 5] (d_readItem (D := D) (G := G) (P := P) hp h1N hN s0 s1 hf hL hl hP hq hlt.1 hlt.2.1 (fun P2 I J gv' hP2 hmono hI hJ hne hb hgw hout hri => ?_) (fun E P2 ig' gv' hE hP2 h1 h2 => ?_)) rfl rfl rfl rfl
    · rw [hri] at hR
      have hpp := sc_p_rg f hP2
      have hr := sc_c_rg hf (P := P2) hL
      rw [if_pos rfl] at hR
      have hnext := lt_next ht hlt hI hJ hne hb hgw hout
      refine wp_h (w_lt s h f (pj_up ig (5 * I + J) 1) gv' d l (P2 : Int) (-9)) rfl ?_
      refine wp_c rfl (by omega) [0] (d_fine ?_) rfl rfl rfl rfl
      refine wp_h (w_lt s h f (pj_up ig (5 * I + J) 1) gv' d l (P2 : Int) (-9)) rfl ?_
      refine wp_b rfl (by omega) (fun c => absurd c (by omega)) (fun _ => ?_)
      refine wp_c rfl (by omega) [0, 3] (d_current hf hL hl hP2 rfl ?_) rfl rfl rfl rfl
      refine wp_h (w_lt s h f (pj_up ig (5 * I + J) 1) gv' d l ((sc_p f L P2 : Nat) : Int) (-9)) rfl ?_
      refine wp_b rfl (by omega) (fun c => ?_) (fun c => ?_)
      · have hlt2 := sc_c_end (f := f) (L := L) (P := P2) c
        rw [if_neg (show ¬ sc_c f L P2 = -1 by omega)] at hR
        exact ih (t + 1) (sc_p f L P2) _ _ _ _ _ _ (by omega) (by omega) hpp.2 rfl (by omega) hnext hR
      · have hend : sc_c f L P2 = -1 := by omega
        refine wp_g rfl (by omega) ?_
        rw [if_pos hend] at hR
        have e1 : it + 1 = R0.1 := by rw [← hR]; show it + 1 = (t : Int) + 1; omega
        have e2 : ri_s p N I J (nn_nm p N (fun k => gv' (5 * (5 * I + J) + k))) D = R0.2 := by rw [← hR]
        rw [e1]
        rw [e2] at hnext
        exact d_lt_end ht hs hd hDD hnext (fun TT s' h' a1 a2 a3 a4 => hQ1 TT s' h' _ _ _ _ (by omega) a1 a2 a3 a4)
    · rw [if_neg (by rw [h1]; exact Bool.false_ne_true)] at hR
      have e1 : -10 - (E : Int) = R0.1 := by rw [← hR, h2]
      refine wp_h (w_lt s h f ig' gv' d l (P2 : Int) (E : Int)) rfl ?_
      refine wp_c rfl (by omega) [0] (d_unfine (by omega) ?_) rfl rfl rfl rfl
      refine wp_h (w_lt s h f ig' gv' d l (P2 : Int) (E : Int)) rfl ?_
      refine wp_b rfl (by omega) (fun _ => ?_) (fun c => absurd rfl c)
      refine wp_c rfl (by omega) [0] (d_unfine (by omega) ?_) rfl rfl rfl rfl
      refine wp_h (w_lt s h f ig' gv' d l (P2 : Int) (E : Int)) rfl ?_
      refine wp_b rfl (by omega) (fun c => absurd rfl c) (fun _ => ?_)
      refine wp_r rfl (by omega) ?_
      rw [e1]
      exact hQ0 _ _ _ _ (by omega)
/-- loadText() -/
theorem d_loadText (ht : tt_ok p N T) (hs : st_m p N T s) {h f ig gv D0 : Nat → Int} {L DD : Nat} {d l q e : Int} (hf : ∀ k, k < 120 → 0 ≤ f k ∧ f k ≤ 255) (hL : L ≤ 120) (hl : l = L) (hd : d = DD) (hDD : DD ≤ 6) (hD0 : tt_br p N T D0)
    (hQ1 : ∀ (TT : Nat → Nat → Nat → Int) (s' h' ig gv : Nat → Int) (q e : Int), 0 ≤ (rd_l f L p N 120 0 0 D0 0).1 → tt_ok p N TT → tt_br p N TT (rd_l f L p N 120 0 0 D0 0).2 → st_m p N TT s' → kp_is DD s h h' → Q (some (.inl (rd_l f L p N 120 0 0 D0 0).1)) (w_lt s' h' f ig gv (if DD = 6 then 6 else d + 1) 0 q e))
    (hQ0 : ∀ (ig gv : Nat → Int) (q e : Int), (rd_l f L p N 120 0 0 D0 0).1 < 0 → Q (some (.inl (rd_l f L p N 120 0 0 D0 0).1)) (w_lt s h f ig gv d l q e)) :
    pj_ci X m_Mo_loadText [.inr 0] (w_lt s h f ig gv d l q e) Q := by
  refine wp_g rfl (by omega) ?_
  refine d_lt_reset (fun ig gv d1 h1 h2 => ?_) 125 0 _ _ _ (by omega) (by omega) (fun j hj => by omega) (fun j hj => by omega)
  refine wp_g rfl (by omega) ?_
  exact d_lt_loop ht hs hf hL hl hd hDD hQ1 hQ0 119 0 0 0 D0 _ _ _ _ (by omega) (by omega) (by omega) (by omega) (by omega) (lt_none ht h1 h2 hD0) rfl
end TXL
