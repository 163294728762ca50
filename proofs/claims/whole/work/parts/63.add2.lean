/-! THE MODEL: add, the insertion; the whole -/
section ADD2
variable {X : pj_X} {Q : pj_Q} {p : Int} {N : Nat} {s : Nat → Int}
/-- the rows from J on are done: they are cleared, and those behind the new lead moved by one -/
def ad_in (p : Int) (N K J : Nat) (R : Nat → ln_V) (v2 : ln_V) (b f : Nat → Int) : Prop := f 0 = b 0 ∧ (∀ q k, q < J → k < 5 → f (1 + 5 * q + k) = b (1 + 5 * q + k)) ∧ ∀ r, r < N → R r r ≠ 0 → J ≤ ln_ct R r → ∀ k, k < 5 → f (1 + 5 * (ln_ct R r + if r < K then 0 else 1) + k) = if k < N then (R r k - R r K * v2 k) % p else 0
set_option maxHeartbeats 2000000 in
theorem d_add_shift {len K : Nat} {f y ld : Int} {R : Nat → ln_V} {b g h : Nat → Int} (hp : nn_p p) (hN : N ≤ 5) (h0 : s 0 = p) (h1 : s 1 = (N : Int)) (hb : cm_ok p N R b) (hK : K < N) (hld : ld = K) (hKK : R K K = 0) (hone : h K = 1) (hz0 : ∀ c, c < K → h c = 0) (hzl : ∀ r, r < N → R r r ≠ 0 → h r = 0) (hh : ∀ c, c < N → 0 ≤ h c ∧ h c < p) (hct : ln_ct R N + 1 ≤ N)
    (hQ : ∀ (f' : Nat → Int) (pl : Int) (d d8 : pj_V), pl = (ln_ct R K : Int) → ad_in p N K 0 R h b f' → pj_WP X m_Mo_add 245 [.inr 0, .inr 3, .inr 4, .inl f, .inl ld, .inl y, .inl pl, d, d8] [] (w_a s h f' len g) Q) :
    ∀ (J : Nat) (f' : Nat → Int) (pl r7 : Int) (d8 : pj_V), J ≤ ln_ct R N → r7 = (J : Int) - 1 → pl = ((max J (ln_ct R K) : Nat) : Int) → ad_in p N K J R h b f' → pj_WP X m_Mo_add 157 [.inr 0, .inr 3, .inr 4, .inl f, .inl ld, .inl y, .inl pl, .inl r7, d8] [] (w_a s h f' len g) Q := by
  obtain ⟨hp1, hp2, hp3⟩ := nn_p_pos hp
  obtain ⟨hR, hb0, hbr⟩ := hb
  intro J
  induction J with
  | zero =>
    intro f' pl r7 d8 hJ hr7 hpl hin
    refine wp_b rfl (by omega) (fun c => ?_) (fun c => absurd c (by omega))
    exact hQ f' pl _ _ (by rw [hpl, Nat.zero_max]) hin
  | succ J ih =>
    intro f' pl r7 d8 hJ hr7 hpl hin
    obtain ⟨i0, i1, i2⟩ := hin
    obtain ⟨r, hr, hl, hc⟩ := ln_ct_ex (R := R) N J (by omega)
    have hRr := (hR r hr).1
    have hrK : r ≠ K := fun z => by subst z; exact hl hKK
    have hrow : ∀ k, k < 5 → f' (1 + 5 * J + k) = if k < N then R r k else 0 := fun k hk => by
      rw [i1 J k (by omega) hk, ← hc]
      exact hbr r hr hl k hk
    have hrowN : ∀ k, k < N → f' (1 + 5 * J + k) = R r k := fun k hk => by rw [hrow k (by omega), if_pos hk]
    refine wp_b rfl (by omega) (fun c => absurd c (by omega)) (fun c => ?_)
    refine wp_c rfl (by omega) [0, 1, 3, 2] (d_clear (F := 1 + 5 * J) (FB := 0) (LD := K) (by omega) (by omega) hp hN h0 h1 (by omega) rfl hld hK (by omega) (by omega) (fun k hk => by rw [hrowN k hk]; exact hRr k hk) (fun k hk => by rw [Nat.zero_add]; exact hh k hk) (fun f1 a1 a2 => ?_)) rfl rfl rfl rfl
    refine wp_h (w_a s h f1 len g) rfl ?_
    have b1 : ∀ k, k < N → f1 (1 + 5 * J + k) = (R r k - R r K * h k) % p := fun k hk => by
      have h9 := a1 k hk
      rw [hrowN k hk, hrowN K hK, Nat.zero_add] at h9
      exact h9
    have b5 : ∀ k, k < 5 → f1 (1 + 5 * J + k) = if k < N then (R r k - R r K * h k) % p else 0 := fun k hk => by
      by_cases hkN : k < N
      · rw [if_pos hkN, b1 k hkN]
      · rw [if_neg hkN, a2 _ (by omega), hrow k hk, if_neg hkN]
    have blow : ∀ k, k < r → f1 (1 + 5 * J + k) = 0 := fun k hk => by
      rw [b1 k (by omega), ln_R_low hR hr hk]
      by_cases hkK : k < K
      · rw [hz0 k hkK, Int.mul_zero, Int.sub_zero, Int.zero_emod]
      · rw [ln_R_low hR hr (show K < r by omega), Int.zero_mul, Int.sub_zero, Int.zero_emod]
    have bat : f1 (1 + 5 * J + r) = 1 := by
      rw [b1 r hr, ln_R_one hR hr hl, hzl r hr hl, Int.mul_zero, Int.sub_zero, Int.emod_eq_of_lt (by omega) (by omega)]
    refine wp_c rfl (by omega) [0, 1, 3] (d_leadOf (F := 1 + 5 * J) (by omega) hN h1 (by omega) (by omega) (fun k hk => by rw [b1 k hk]; have e1 := Int.emod_nonneg (R r k - R r K * h k) (show p ≠ 0 by omega); have e2 := Int.emod_lt_of_pos (R r k - R r K * h k) hp1; unfold pj_rg; omega) (fun K2 hK2 hK0 hK1 => ?_)) rfl rfl rfl rfl
    have eK : K2 = r := by
      rcases Nat.lt_trichotomy K2 r with z | z | z
      · exact absurd (blow K2 z) (hK1 (by omega))
      · exact z
      · have := hK0 r z; omega
    subst eK
    refine wp_h (w_a s h f1 len g) rfl ?_
    refine wp_b rfl (by omega) (fun c2 => ?_) (fun c2 => ?_)
    · -- ahead of the new lead
      have hlt : K2 < K := by omega
      have hctlt := ln_ct_lt (R := R) hlt hl
      refine wp_g rfl (by omega) ?_
      refine ih f1 _ _ _ (by omega) (by omega) (by omega) ⟨by rw [a2 0 (by omega)]; exact i0, fun q k hq hk => ?_, fun q hq hql hqJ k hk => ?_⟩
      · rw [a2 _ (by omega)]
        exact i1 q k (by omega) hk
      · by_cases e : ln_ct R q = J
        · have eq := ln_ct_inj hql hl (e.trans hc.symm)
          subst eq
          rw [if_pos hlt, e]
          exact b5 k hk
        · rw [a2 _ (by omega)]
          exact i2 q hq hql (by omega) k hk
    · -- behind it
      have hlt : K < K2 := by omega
      have hmono := ln_ct_mono2 (R := R) (show K ≤ K2 by omega)
      refine wp_g rfl (by omega) ?_
      refine d_add_move (J := J) (f1 := f1) (by omega) (by omega) (fun f2 d hf2 => ?_) 5 0 _ _ (by omega) (by omega) (fun q => by rw [if_neg (by omega)])
      refine wp_g rfl (by omega) ?_
      refine ih f2 _ _ _ (by omega) (by omega) (by omega) ⟨by rw [hf2 0, if_neg (by omega), a2 0 (by omega)]; exact i0, fun q k hq hk => ?_, fun q hq hql hqJ k hk => ?_⟩
      · rw [hf2 _, if_neg (by omega), a2 _ (by omega)]
        exact i1 q k (by omega) hk
      · by_cases e : ln_ct R q = J
        · have eq := ln_ct_inj hql hl (e.trans hc.symm)
          subst eq
          rw [if_neg (show ¬ q < K by omega), e, hf2 _, if_pos (by omega), show 1 + 5 * (J + 1) + k - 5 = 1 + 5 * J + k by omega]
          exact b5 k hk
        · have hq9 : ¬ q < K := fun z => by
            have := ln_ct_lt (R := R) z hql
            omega
          have h8 := i2 q hq hql (by omega) k hk
          rw [if_neg hq9] at h8 ⊢
          rw [hf2 _, if_neg (by omega), a2 _ (by omega)]
          exact h8
set_option maxHeartbeats 2000000 in
/-- add(sub, row, from) -/
theorem d_add {len F : Nat} {f : Int} {R : Nat → ln_V} {b g h0 : Nat → Int} (hlen : len ≤ 100000) (hp : nn_p p) (hN : N ≤ 5) (hs0 : s 0 = p) (hs1 : s 1 = (N : Int)) (hb : cm_ok p N R b) (hf : f = F) (hF : F + 5 ≤ len) (hg : ∀ k, k < 5 → 0 ≤ g (F + k) ∧ g (F + k) < p ∧ (N ≤ k → g (F + k) = 0))
    (hQ : ∀ (f' h' : Nat → Int) (R' : Nat → ln_V) (bb : Bool), ln_join p N R (fun k => g (F + k)) R' bb → cm_ok p N R' f' → Q (some (.inl (if bb then 1 else 0))) (w_a s h' f' len g)) :
    pj_ci X m_Mo_add [.inr 0, .inr 3, .inr 4, .inl f] (w_a s h0 b len g) Q := by
  obtain ⟨hp1, hp2, hp3⟩ := nn_p_pos hp
  obtain ⟨hR, hb0, hbr⟩ := id hb
  have hw := ln_ct_w R N
  have hs1' : s (Int.toNat 1) = (N : Int) := hs1
  refine wp_g rfl (by omega) ?_
  refine d_add_copy hlen hf hF (fun h1 d hh1 => ?_) 5 0 _ _ (by omega) (by omega) (fun j hj => by omega)
  refine wp_g rfl (by omega) ?_
  refine d_add_red (R := R) (v := fun k => g (F + k)) hp hN hs0 hs1 hb (fun h2 d hh2 he2 => ?_) (ln_ct R N) 0 _ _ (by omega) (by omega) (fun c hc => by rw [hh1 c hc]; exact hg c hc) (fun c hc => by
    show nn_eq p (h1 c) (g (F + c) - nn_sm N (fun r => if ln_ct R r < 0 then g (F + r) * R r c else 0))
    rw [nn_sm_0 N (fun r _ => if_neg (by omega)), Int.sub_zero, hh1 c (by omega)]
    exact nn_eq_rfl p _)
  refine wp_c rfl (by omega) [0, 1, 2] (d_leadOf (F := 0) (by omega) hN hs1 rfl (by omega) (fun k hk => by rw [Nat.zero_add]; have := hh2 k (by omega); unfold pj_rg; omega) (fun K hK hK0 hK1 => ?_)) rfl rfl rfl rfl
  refine wp_h (w_a s h2 b len g) rfl ?_
  have hK0' : ∀ j, j < K → h2 j = 0 := fun j hj => by have h9 := hK0 j hj; rw [Nat.zero_add] at h9; exact h9
  refine wp_b rfl (by omega) (fun c => ?_) (fun c => ?_)
  · have hKN : K < N := by omega
    have hne : h2 K ≠ 0 := by have h9 := hK1 hKN; rw [Nat.zero_add] at h9; exact h9
    have hK5 := hh2 K (by omega)
    have ekk : ((K : Int)).toNat = K := Int.toNat_natCast K
    refine wp_c rfl (by omega) [0, 1] (d_inverse hp hs0 (by rw [ekk]; omega) (fun y hy1 hy2 hy3 => ?_)) rfl rfl rfl rfl
    rw [ekk] at hy3
    refine wp_h (w_a s h2 b len g) rfl ?_
    refine wp_g rfl (by omega) ?_
    refine d_add_scale (h0 := h2) hp hs0 ⟨by omega, hy2⟩ (fun c hc => ⟨(hh2 c hc).1, (hh2 c hc).2.1⟩) (fun h3 d hh3 => ?_) 5 0 _ _ (by omega) (by omega) (fun c _ => by rw [if_neg (by omega)])
    obtain ⟨hjoin, hKK, hone, hz0, hzl, hv2g, hdiag⟩ := ln_push (w := N) (R := R) (R' := fun r c => if r = K then h3 c else (R r c - R r K * h3 c) % p) hR hp (v := fun k => g (F + k)) (v1 := h2) (v2 := h3) (K := K) (y := y) he2 (fun c hc => ⟨(hh2 c (by omega)).1, (hh2 c (by omega)).2.1⟩) hKN hK0' hne hy3 (fun c hc => hh3 c (by omega)) (fun c _ => if_pos rfl) (fun r c _ hne2 _ => if_neg hne2)
    have hctN : ln_ct R N + 1 ≤ N := by
      have h8 := hjoin.2.2.1
      have h9 := ln_ct_w (fun r c => if r = K then h3 c else (R r c - R r K * h3 c) % p) N
      rw [h8] at h9
      simpa using h9
    have hb0' : b (Int.toNat 0) = (ln_ct R N : Int) := hb0
    refine wp_g rfl (by omega) ?_
    have hctK := ln_ct_mono2 (R := R) (show K ≤ N by omega)
    refine d_add_shift (K := K) hp hN hs0 hs1 hb hKN rfl hKK hone hz0 hzl hv2g hctN (fun f4 pl d d8 hpl hin => ?_) (ln_ct R N) b _ _ _ (Nat.le_refl _) (by omega) (by rw [hb0']; omega) ⟨rfl, fun q k _ _ => rfl, fun r hr hl hle => by have := ln_ct_lt hr hl; omega⟩
    obtain ⟨i0, -, i2⟩ := hin
    refine wp_g rfl (by omega) ?_
    refine d_add_put (t := ln_ct R K) (f1 := f4) (by omega) hpl (fun f5 d hf5 => ?_) 5 0 _ _ (by omega) (by omega) (fun q => by rw [if_neg (by omega)])
    refine wp_r rfl (by omega) ?_
    have e50 : f5 0 = (ln_ct R N : Int) := by rw [hf5 0, if_neg (by omega), i0]; exact hb0
    have hfin := hQ (pj_up f5 (Int.toNat 0) (f5 (Int.toNat 0) + 1)) h3 _ true hjoin ⟨hjoin.1, ?_, fun r hr hl k hk => ?_⟩
    · exact hfin
    · rw [hjoin.2.2.1]
      show (if (0 : Nat) = 0 then f5 0 + 1 else f5 0) = _
      rw [if_pos rfl, e50]
      simp
    · have hl' : ¬ (R r r = 0 ∧ r ≠ K) := fun z => hl ((hdiag r hr).mpr z)
      rw [ln_ct_ins2 (R' := fun r c => if r = K then h3 c else (R r c - R r K * h3 c) % p) hKN hKK hdiag hr]
      show (if 1 + 5 * (ln_ct R r + if r ≤ K then 0 else 1) + k = 0 then f5 0 + 1 else f5 (1 + 5 * (ln_ct R r + if r ≤ K then 0 else 1) + k)) = if k < N then (if r = K then h3 k else (R r k - R r K * h3 k) % p) else 0
      rw [if_neg (by omega)]
      by_cases e : r = K
      · subst e
        rw [if_pos (Nat.le_refl r), Nat.add_zero, hf5 _, if_pos (by omega), if_pos rfl, show 1 + 5 * ln_ct R r + k - (1 + 5 * ln_ct R r) = k by omega]
        by_cases hkN : k < N
        · rw [if_pos hkN]
        · rw [if_neg hkN, hh3 k hk, (hh2 k hk).2.2 (by omega), Int.zero_mul, Int.zero_emod]
      · have hl9 : R r r ≠ 0 := fun z => hl' ⟨z, e⟩
        have h8 := i2 r hr hl9 (Nat.zero_le _) k hk
        rw [if_neg e]
        by_cases hrK : r < K
        · have := ln_ct_lt (R := R) hrK hl9
          rw [if_pos hrK] at h8
          rw [if_pos (show r ≤ K by omega), hf5 _, if_neg (by omega)]
          exact h8
        · have := ln_ct_mono2 (R := R) (show K ≤ r by omega)
          rw [if_neg hrK] at h8
          rw [if_neg (show ¬ r ≤ K by omega), hf5 _, if_neg (by omega)]
          exact h8
  · have hKN : K = N := by omega
    refine wp_r rfl (by omega) ?_
    exact hQ b h2 R false (ln_join_same hR ((ln_red_in he2).mpr (fun c hc => by rw [hK0' c (by omega)]; exact nn_eq_rfl p 0)) (fun _ _ _ _ => rfl)) hb
end ADD2
