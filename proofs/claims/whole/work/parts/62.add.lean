/-! a vector comes to a canonical matrix: the mathematics alone; the model's compact rows -/
section PUSH
variable {p : Int} {w : Nat}
theorem ln_push {R R' : Nat → ln_V} (hR : ln_R p w R) (hp : nn_p p) {v v1 v2 : ln_V} {K : Nat} {y : Int} (h1 : ln_eq p w v1 (fun c => v c - nn_sm w (fun r => v r * R r c))) (hv1 : ∀ c, c < w → 0 ≤ v1 c ∧ v1 c < p) (hK : K < w) (h0 : ∀ c, c < K → v1 c = 0) (hne : v1 K ≠ 0) (hy : y * v1 K % p = 1) (hv2 : ∀ c, c < w → v2 c = (v1 c * y) % p)
    (hl' : ∀ c, c < w → R' K c = v2 c) (hr' : ∀ r c, r < w → r ≠ K → c < w → R' r c = (R r c - R r K * v2 c) % p) :
    ln_join p w R v R' true ∧ R K K = 0 ∧ v2 K = 1 ∧ (∀ c, c < K → v2 c = 0) ∧ (∀ r, r < w → R r r ≠ 0 → v2 r = 0) ∧ (∀ c, c < w → 0 ≤ v2 c ∧ v2 c < p) ∧ (∀ r, r < w → (R' r r = 0 ↔ (R r r = 0 ∧ r ≠ K))) := by
  obtain ⟨hp1, hp2, hp3⟩ := nn_p_pos hp
  have hin := ln_red_in (R := R) (v := v) h1
  have hlr : R K K = 0 := Decidable.byContradiction fun z9 => hne (nn_eq_red (ln_red_lead hR h1 hK z9) (hv1 K hK) ⟨by omega, by omega⟩)
  have hv2g : ∀ c, c < w → 0 ≤ v2 c ∧ v2 c < p := fun c hc => by
    rw [hv2 c hc]
    exact ⟨Int.emod_nonneg _ (by omega), Int.emod_lt_of_pos _ hp1⟩
  have hsc : ln_eq p w v2 (fun c => y * v1 c) := fun c hc => by
    rw [hv2 c hc, Int.mul_comm]
    exact nn_eq_mod p _
  have hone : v2 K = 1 := by rw [hv2 K hK, Int.mul_comm]; exact hy
  have hzero : ∀ c, c < w → nn_eq p (v1 c) 0 → v2 c = 0 := fun c hc h9 => by
    have e := nn_eq_red h9 (hv1 c hc) ⟨by omega, by omega⟩
    rw [hv2 c hc, e, Int.zero_mul, Int.zero_emod]
  have hz0 : ∀ c, c < K → v2 c = 0 := fun c hc => hzero c (by omega) (by rw [h0 c hc]; exact nn_eq_rfl p 0)
  have hzl : ∀ r, r < w → R r r ≠ 0 → v2 r = 0 := fun r hr hl => hzero r hr (ln_red_lead hR h1 hr hl)
  have hins := ln_ins (p := p) (w := w) (R := R) (R' := R') hR (by omega) (v2 := v2) hK hv2g hone hz0 hzl hl' (fun r c hr hne2 hc => by
    rw [hr' r c hr hne2 hc]
    exact ⟨⟨Int.emod_nonneg _ (by omega), Int.emod_lt_of_pos _ hp1⟩, nn_eq_mod p _⟩)
  refine ⟨⟨hins.1, fun W9 hW9 => ?_, ?_, ⟨fun _ h9 => ?_, fun _ => rfl⟩, fun h9 => by cases h9⟩, hlr, hone, hz0, hzl, hv2g, hins.2.2⟩
  · rw [hins.2.1 W9 hW9]
    have hs1 : W9 v1 ↔ W9 v2 := ln_scale_W hW9 (a := y) (b := v1 K) (by rw [hy, Int.emod_eq_of_lt (by omega) (by omega)]) hsc
    constructor
    · rintro ⟨a1, a2⟩
      exact ⟨a1, (ln_red_W hW9 a1 h1).mpr (hs1.mpr a2)⟩
    · rintro ⟨a1, a2⟩
      exact ⟨a1, hs1.mp ((ln_red_W hW9 a1 h1).mp a2)⟩
  · exact ln_ct_ins w hK hlr hins.2.2
  · exact hne (nn_eq_red (hin.mp h9 K hK) (hv1 K hK) ⟨by omega, by omega⟩)
/-- the first place that isn't 0 -/
theorem ln_first {v : ln_V} : ∀ n : Nat, (∀ c, c < n → v c = 0) ∨ ∃ K, K < n ∧ (∀ c, c < K → v c = 0) ∧ v K ≠ 0
  | 0 => Or.inl fun c hc => absurd hc (by omega)
  | n + 1 => by
    rcases ln_first (v := v) n with h | ⟨K, h1, h2, h3⟩
    · by_cases h0 : v n = 0
      · exact Or.inl fun c hc => by
          by_cases e : c = n
          · rw [e]; exact h0
          · exact h c (by omega)
      · exact Or.inr ⟨n, by omega, h, h0⟩
    · exact Or.inr ⟨K, by omega, h2, h3⟩
/-- a join there always is -/
theorem ln_join_ex {R : Nat → ln_V} (hR : ln_R p w R) (hp : nn_p p) (v : ln_V) : ∃ R' b, ln_join p w R v R' b := by
  obtain ⟨hp1, hp2, hp3⟩ := nn_p_pos hp
  have h1 : ln_eq p w (fun c => (v c - nn_sm w (fun r => v r * R r c)) % p) (fun c => v c - nn_sm w (fun r => v r * R r c)) := fun c _ => nn_eq_mod p _
  have hv1 : ∀ c, c < w → 0 ≤ (v c - nn_sm w (fun r => v r * R r c)) % p ∧ (v c - nn_sm w (fun r => v r * R r c)) % p < p := fun c _ => ⟨Int.emod_nonneg _ (by omega), Int.emod_lt_of_pos _ hp1⟩
  rcases ln_first (v := fun c => (v c - nn_sm w (fun r => v r * R r c)) % p) w with h | ⟨K, hK, h0, hne⟩
  · exact ⟨R, false, ln_join_same hR ((ln_red_in h1).mpr (fun c hc => by rw [h c hc]; exact nn_eq_rfl p 0)) (fun _ _ _ _ => rfl)⟩
  · have hvK := hv1 K hK
    have hne' : (v K - nn_sm w (fun r => v r * R r K)) % p ≠ 0 := hne
    obtain ⟨y, -, -, hy⟩ := nn_inv_ex hp _ (show 1 ≤ (v K - nn_sm w (fun r => v r * R r K)) % p by omega) hvK.2
    exact ⟨fun r c => if r = K then ((v c - nn_sm w (fun r => v r * R r c)) % p * y) % p else (R r c - R r K * (((v c - nn_sm w (fun r => v r * R r c)) % p * y) % p)) % p, true, (ln_push hR hp (v2 := fun c => ((v c - nn_sm w (fun r => v r * R r c)) % p * y) % p) h1 hv1 hK h0 hne hy (fun c _ => rfl) (fun c _ => by rw [if_pos rfl]) (fun r c _ hne2 _ => by rw [if_neg hne2])).1⟩
theorem ln_ct_ex {R : Nat → ln_V} : ∀ (n j : Nat), j < ln_ct R n → ∃ r, r < n ∧ R r r ≠ 0 ∧ ln_ct R r = j
  | 0, j, h => absurd h (by show ¬ j < 0; omega)
  | n + 1, j, h => by
    have h : j < ln_ct R n + (if R n n = 0 then 0 else 1) := h
    by_cases hj : j < ln_ct R n
    · obtain ⟨r, h1, h2, h3⟩ := ln_ct_ex n j hj
      exact ⟨r, by omega, h2, h3⟩
    · by_cases h0 : R n n = 0
      · rw [if_pos h0] at h; omega
      · rw [if_neg h0] at h
        exact ⟨n, by omega, h0, by omega⟩
theorem ln_ct_mono2 {R : Nat → ln_V} {r q : Nat} (h : r ≤ q) : ln_ct R r ≤ ln_ct R q := by
  have := ln_ct_mono (R := R) (q - r) r
  rw [show r + (q - r) = q by omega] at this
  exact this
/-- the leads of a row more -/
theorem ln_ct_ins2 {R R' : Nat → ln_V} {K : Nat} (hK : K < w) (h0 : R K K = 0) (h : ∀ r, r < w → (R' r r = 0 ↔ (R r r = 0 ∧ r ≠ K))) {r : Nat} (hr : r < w) : ln_ct R' r = ln_ct R r + (if r ≤ K then 0 else 1) := by
  by_cases hrK : r ≤ K
  · rw [if_pos hrK]
    exact ln_ct_congr r (fun q hq => ⟨fun z => ((h q (by omega)).mp z).1, fun z => (h q (by omega)).mpr ⟨z, by omega⟩⟩)
  · rw [if_neg hrK]
    exact ln_ct_ins r (by omega) h0 (fun q hq => h q (by omega))
/-- the model's compact rows of a canonical matrix -/
def cm_ok (p : Int) (N : Nat) (R : Nat → ln_V) (f : Nat → Int) : Prop := ln_R p N R ∧ f 0 = (ln_ct R N : Int) ∧ ∀ r, r < N → R r r ≠ 0 → ∀ k, k < 5 → f (1 + 5 * ln_ct R r + k) = if k < N then R r k else 0
end PUSH
/-! THE MODEL: add -/
abbrev o_a : pj_C := .inr (8, [v_u, .inr 1, v_u, v_u, v_u, v_u, v_u, v_u, v_u, v_u, v_u, v_u, v_u, v_u, v_u, v_u, v_u, .inr 2, v_u, v_u, v_u, v_u, v_u, v_u, v_u, v_u, v_u, v_u])
abbrev w_a (s h f : Nat → Int) (len : Nat) (g : Nat → Int) : List pj_C := [o_a, c_A 127 s, c_A 5 h, c_A 26 f, c_A len g]
section ADD
variable {X : pj_X} {Q : pj_Q} {p : Int} {N : Nat} {s : Nat → Int}
theorem d_add_copy {len F : Nat} {f : Int} {b g : Nat → Int} (hlen : len ≤ 100000) (hf : f = F) (hF : F + 5 ≤ len) {d5 d6 d7 d8 : pj_V}
    (hQ : ∀ (h' : Nat → Int) (d : pj_V), (∀ k, k < 5 → h' k = g (F + k)) → pj_WP X m_Mo_add 28 [.inr 0, .inr 3, .inr 4, .inl f, d, d5, d6, d7, d8] [] (w_a s h' b len g) Q) :
    ∀ (m K : Nat) (h : Nat → Int) (k : Int), K + m = 5 → k = K → (∀ j, j < K → h j = g (F + j)) → pj_WP X m_Mo_add 3 [.inr 0, .inr 3, .inr 4, .inl f, .inl k, d5, d6, d7, d8] [] (w_a s h b len g) Q := by
  intro m
  induction m with
  | zero =>
    intro K h k hK hk hh
    refine wp_b rfl (by omega) (fun c => ?_) (fun c => absurd c (by omega))
    exact hQ h _ (fun j hj => hh j (by omega))
  | succ m ih =>
    intro K h k hK hk hh
    have e1 : (f + k).toNat = F + K := by omega
    refine wp_b rfl (by omega) (fun c => absurd c (by omega)) (fun c => ?_)
    refine wp_g rfl (by omega) ?_
    rw [e1]
    refine ih (K + 1) _ _ (by omega) (by omega) (fun j hj => ?_)
    unfold pj_up
    rw [show k.toNat = K by omega]
    by_cases e : j = K
    · rw [if_pos e, e]
    · rw [if_neg e]
      exact hh j (by omega)
theorem d_add_red {len : Nat} {f : Int} {R : Nat → ln_V} {v b g : Nat → Int} (hp : nn_p p) (hN : N ≤ 5) (h0 : s 0 = p) (h1 : s 1 = (N : Int)) (hb : cm_ok p N R b) {d5 d6 d7 d8 : pj_V}
    (hQ : ∀ (h' : Nat → Int) (d : pj_V), (∀ c, c < 5 → 0 ≤ h' c ∧ h' c < p ∧ (N ≤ c → h' c = 0)) → ln_eq p N h' (fun c => v c - nn_sm N (fun r => v r * R r c)) → pj_WP X m_Mo_add 72 [.inr 0, .inr 3, .inr 4, .inl f, d, d5, d6, d7, d8] [] (w_a s h' b len g) Q) :
    ∀ (m J : Nat) (h : Nat → Int) (k : Int), J + m = ln_ct R N → k = J → (∀ c, c < 5 → 0 ≤ h c ∧ h c < p ∧ (N ≤ c → h c = 0)) → ln_eq p N h (fun c => v c - nn_sm N (fun r => if ln_ct R r < J then v r * R r c else 0)) → pj_WP X m_Mo_add 31 [.inr 0, .inr 3, .inr 4, .inl f, .inl k, d5, d6, d7, d8] [] (w_a s h b len g) Q := by
  obtain ⟨hp1, hp2, hp3⟩ := nn_p_pos hp
  obtain ⟨hR, hb0, hbr⟩ := hb
  have hb0' : b (Int.toNat 0) = (ln_ct R N : Int) := hb0
  have hw := ln_ct_w R N
  intro m
  induction m with
  | zero =>
    intro J h k hJ hk hh he
    refine wp_b rfl (by omega) (fun c => ?_) (fun c => absurd c (by omega))
    refine hQ h _ hh (fun c hc => ?_)
    have h9 := he c hc
    have h9 : nn_eq p (h c) (v c - nn_sm N (fun r => if ln_ct R r < J then v r * R r c else 0)) := h9
    have e : nn_sm N (fun r => if ln_ct R r < J then v r * R r c else 0) = nn_sm N (fun r => v r * R r c) := nn_sm_congr N (fun r hr => by
      by_cases hl : R r r = 0
      · rw [ln_R_zero hR hr hc hl, Int.mul_zero]
        split <;> rfl
      · rw [if_pos (by have := ln_ct_lt hr hl; omega)])
    rw [e] at h9
    exact h9
  | succ m ih =>
    intro J h k hJ hk hh he
    obtain ⟨r, hr, hl, hct⟩ := ln_ct_ex (R := R) N J (by omega)
    have hrow : ∀ c, c < N → b (1 + 5 * J + c) = R r c := fun c hc => by
      have h9 := hbr r hr hl c (by omega)
      rw [hct, if_pos hc] at h9
      exact h9
    have hRr := (hR r hr).1
    refine wp_b rfl (by omega) (fun c => absurd c (by omega)) (fun c => ?_)
    refine wp_c rfl (by omega) [0, 1, 3] (d_leadOf (F := 1 + 5 * J) (by omega) hN h1 (by omega) (by omega) (fun c hc => by rw [hrow c hc]; have := hRr c hc; unfold pj_rg; omega) (fun K hK hK0 hK1 => ?_)) rfl rfl rfl rfl
    have eK : K = r := by
      rcases Nat.lt_trichotomy K r with z | z | z
      · exact absurd (by rw [hrow K (by omega)]; exact ln_R_low hR hr z) (hK1 (by omega))
      · exact z
      · exact absurd (by rw [← hrow r hr]; exact hK0 r z) hl
    subst eK
    refine wp_h (w_a s h b len g) rfl ?_
    refine wp_c rfl (by omega) [0, 1, 2, 3] (d_clear (F := 0) (FB := 1 + 5 * J) (LD := K) (by omega) (by omega) hp hN h0 h1 rfl (by omega) rfl hr (by omega) (by omega) (fun c hc => by rw [Nat.zero_add]; exact ⟨(hh c (by omega)).1, (hh c (by omega)).2.1⟩) (fun c hc => by rw [hrow c hc]; exact hRr c hc) (fun h2 a1 a2 => ?_)) rfl rfl rfl rfl
    refine wp_h (w_a s h2 b len g) rfl ?_
    refine wp_g rfl (by omega) ?_
    have a1' : ∀ c, c < N → h2 c = (h c - h K * R K c) % p := fun c hc => by
      have h9 := a1 c hc
      rw [Nat.zero_add, Nat.zero_add, hrow c hc] at h9
      exact h9
    refine ih (J + 1) _ _ (by omega) (by omega) (fun c hc => ?_) (fun c hc => ?_)
    · by_cases hcN : c < N
      · rw [a1' c hcN]
        exact ⟨Int.emod_nonneg _ (by omega), Int.emod_lt_of_pos _ hp1, fun z => by omega⟩
      · rw [a2 c (by omega)]
        exact hh c hc
    · rw [a1' c hc]
      have eh : nn_eq p (h K) (v K) := by
        have h9 := he K hr
        have h9 : nn_eq p (h K) (v K - nn_sm N (fun q => if ln_ct R q < J then v q * R q K else 0)) := h9
        rw [nn_sm_0 N (fun q hq => by
          by_cases hqJ : ln_ct R q < J
          · rw [if_pos hqJ, ln_R_col hR hr hq hl (fun z => by subst z; omega), Int.mul_zero]
          · rw [if_neg hqJ]), Int.sub_zero] at h9
        exact h9
      have es : nn_sm N (fun q => if ln_ct R q < J + 1 then v q * R q c else 0) = nn_sm N (fun q => if ln_ct R q < J then v q * R q c else 0) + v K * R K c := by
        have e2 : v K * R K c = nn_sm N (fun q => if q = K then v K * R K c else 0) := by
          rw [nn_sm_one N K hr (fun q _ hne => by rw [if_neg hne]), if_pos rfl]
        rw [e2, ← nn_sm_add]
        refine nn_sm_congr N (fun q hq => ?_)
        by_cases hqK : q = K
        · subst hqK
          rw [if_pos (by omega), if_neg (by omega), if_pos rfl, Int.zero_add]
        · rw [if_neg hqK, Int.add_zero]
          by_cases hq0 : R q q = 0
          · rw [ln_R_zero hR hq hc hq0, Int.mul_zero]
            split <;> split <;> rfl
          · have hne : ln_ct R q ≠ J := fun z => hqK (ln_ct_inj hq0 hl (by omega))
            by_cases hqJ : ln_ct R q < J
            · rw [if_pos hqJ, if_pos (by omega)]
            · rw [if_neg hqJ, if_neg (by omega)]
      refine nn_eq_trans (nn_eq_mod p _) ?_
      show nn_eq p _ (v c - nn_sm N (fun q => if ln_ct R q < J + 1 then v q * R q c else 0))
      rw [es, show v c - (nn_sm N (fun q => if ln_ct R q < J then v q * R q c else 0) + v K * R K c) = v c - nn_sm N (fun q => if ln_ct R q < J then v q * R q c else 0) - v K * R K c by omega]
      exact nn_eq_sub (he c hc) (nn_eq_mul eh (nn_eq_rfl p _))
theorem d_add_scale {len : Nat} {f ld y : Int} {b g h0 : Nat → Int} (hp : nn_p p) (hs0 : s 0 = p) (hy : 0 ≤ y ∧ y < p) (hh : ∀ c, c < 5 → 0 ≤ h0 c ∧ h0 c < p) {d7 d8 : pj_V}
    (hQ : ∀ (h' : Nat → Int) (d : pj_V), (∀ c, c < 5 → h' c = (h0 c * y) % p) → pj_WP X m_Mo_add 145 [.inr 0, .inr 3, .inr 4, .inl f, .inl ld, .inl y, d, d7, d8] [] (w_a s h' b len g) Q) :
    ∀ (m K : Nat) (h : Nat → Int) (k : Int), K + m = 5 → k = K → (∀ c, c < 5 → h c = if c < K then (h0 c * y) % p else h0 c) → pj_WP X m_Mo_add 112 [.inr 0, .inr 3, .inr 4, .inl f, .inl ld, .inl y, .inl k, d7, d8] [] (w_a s h b len g) Q := by
  obtain ⟨hp1, hp2, hp3⟩ := nn_p_pos hp
  intro m
  induction m with
  | zero =>
    intro K h k hK hk hc
    refine wp_b rfl (by omega) (fun c => ?_) (fun c => absurd c (by omega))
    refine hQ h _ (fun c hc5 => ?_)
    rw [hc c hc5, if_pos (by omega)]
  | succ m ih =>
    intro K h k hK hk hc
    have ek : k.toNat = K := by omega
    have e1 : h K = h0 K := by rw [hc K (by omega), if_neg (by omega)]
    have r1 := nn_f7 hp (hh K (by omega)) hy
    refine wp_b rfl (by omega) (fun c => absurd c (by omega)) (fun c => ?_)
    refine wp_c rfl (by omega) [0, 1] (d_mod hp hs0 (by rw [ek, e1]; unfold pj_rg; omega) ?_) rfl rfl rfl rfl
    rw [ek, e1]
    refine wp_h (w_a s h b len g) rfl ?_
    refine wp_g rfl (by omega) ?_
    rw [ek]
    refine ih (K + 1) _ _ (by omega) (by omega) (fun c hc5 => ?_)
    unfold pj_up
    by_cases e : c = K
    · subst e
      rw [if_pos rfl, if_pos (by omega)]
    · rw [if_neg e, hc c hc5]
      by_cases e2 : c < K
      · rw [if_pos e2, if_pos (by omega)]
      · rw [if_neg e2, if_neg (by omega)]
theorem d_add_move {len J : Nat} {f r y pl ld : Int} {g h f1 : Nat → Int} (hJ : J ≤ 3) (hr : r = J)
    (hQ : ∀ (f' : Nat → Int) (d : pj_V), (∀ q, f' q = if 6 + 5 * J ≤ q ∧ q < 6 + 5 * J + 5 then f1 (q - 5) else f1 q) → pj_WP X m_Mo_add 235 [.inr 0, .inr 3, .inr 4, .inl f, .inl ld, .inl y, .inl pl, .inl r, d] [] (w_a s h f' len g) Q) :
    ∀ (m K : Nat) (f' : Nat → Int) (k : Int), K + m = 5 → k = K → (∀ q, f' q = if 6 + 5 * J ≤ q ∧ q < 6 + 5 * J + K then f1 (q - 5) else f1 q) → pj_WP X m_Mo_add 199 [.inr 0, .inr 3, .inr 4, .inl f, .inl ld, .inl y, .inl pl, .inl r, .inl k] [] (w_a s h f' len g) Q := by
  intro m
  induction m with
  | zero =>
    intro K f' k hK hk hf
    refine wp_b rfl (by omega) (fun c => ?_) (fun c => absurd c (by omega))
    rw [show K = 5 by omega] at hf
    exact hQ f' _ hf
  | succ m ih =>
    intro K f' k hK hk hf
    have e1 : (1 + 5 * (r + 1) + k).toNat = 6 + 5 * J + K := by omega
    have e2 : (1 + 5 * r + k).toNat = 1 + 5 * J + K := by omega
    refine wp_b rfl (by omega) (fun c => absurd c (by omega)) (fun c => ?_)
    refine wp_g rfl (by omega) ?_
    rw [e1, e2]
    refine ih (K + 1) _ _ (by omega) (by omega) (fun q => ?_)
    unfold pj_up
    by_cases e : q = 6 + 5 * J + K
    · rw [if_pos e, if_pos (by omega), hf (1 + 5 * J + K), if_neg (by omega), show q - 5 = 1 + 5 * J + K by omega]
    · rw [if_neg e, hf q]
      by_cases e3 : 6 + 5 * J ≤ q ∧ q < 6 + 5 * J + K
      · rw [if_pos e3, if_pos (by omega)]
      · rw [if_neg e3, if_neg (by omega)]
theorem d_add_put {len t : Nat} {f y pl ld : Int} {g h f1 : Nat → Int} (ht : t ≤ 4) (hpl : pl = t) {d8 : pj_V}
    (hQ : ∀ (f' : Nat → Int) (d : pj_V), (∀ q, f' q = if 1 + 5 * t ≤ q ∧ q < 1 + 5 * t + 5 then h (q - (1 + 5 * t)) else f1 q) → pj_WP X m_Mo_add 278 [.inr 0, .inr 3, .inr 4, .inl f, .inl ld, .inl y, .inl pl, d, d8] [] (w_a s h f' len g) Q) :
    ∀ (m K : Nat) (f' : Nat → Int) (k : Int), K + m = 5 → k = K → (∀ q, f' q = if 1 + 5 * t ≤ q ∧ q < 1 + 5 * t + K then h (q - (1 + 5 * t)) else f1 q) → pj_WP X m_Mo_add 248 [.inr 0, .inr 3, .inr 4, .inl f, .inl ld, .inl y, .inl pl, .inl k, d8] [] (w_a s h f' len g) Q := by
  intro m
  induction m with
  | zero =>
    intro K f' k hK hk hf
    refine wp_b rfl (by omega) (fun c => ?_) (fun c => absurd c (by omega))
    rw [show K = 5 by omega] at hf
    exact hQ f' _ hf
  | succ m ih =>
    intro K f' k hK hk hf
    have e1 : (1 + 5 * pl + k).toNat = 1 + 5 * t + K := by omega
    have e2 : k.toNat = K := by omega
    refine wp_b rfl (by omega) (fun c => absurd c (by omega)) (fun c => ?_)
    refine wp_g rfl (by omega) ?_
    rw [e1, e2]
    refine ih (K + 1) _ _ (by omega) (by omega) (fun q => ?_)
    unfold pj_up
    by_cases e : q = 1 + 5 * t + K
    · rw [if_pos e, if_pos (by omega), show q - (1 + 5 * t) = K by omega]
    · rw [if_neg e, hf q]
      by_cases e3 : 1 + 5 * t ≤ q ∧ q < 1 + 5 * t + K
      · rw [if_pos e3, if_pos (by omega)]
      · rw [if_neg e3, if_neg (by omega)]
end ADD
