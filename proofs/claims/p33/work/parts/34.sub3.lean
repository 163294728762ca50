/-! Subspace: takeIncoming, join -/
section SUBS3
variable {X : pj_X} {Q : pj_Q}
/-- the first place that isn't 0 -/
theorem c_take2 {C W : Nat} {p w : Int} {f : Nat → Int} {sz : Int} (hC : C ≤ 25) (hw : w = W) (hW : W ≤ C) (hv : ∀ c, c < W → pj_rg (f (C * C + c))) (d2 : pj_V)
    (hQ0 : (∀ c, c < W → f (C * C + c) = 0) → ∀ z : Int, z = W → pj_WP X m_Subspace_takeIncoming 71 [.inr 0, .inl (C : Int), .inl z, d2] [] (w_S C p w (.inl sz) f) Q)
    (hQ1 : ∀ (l : Nat) (z : Int), z = l → l < W → (∀ c, c < l → f (C * C + c) = 0) → f (C * C + l) ≠ 0 → pj_WP X m_Subspace_takeIncoming 71 [.inr 0, .inl (C : Int), .inl z, d2] [] (w_S C p w (.inl sz) f) Q) :
    ∀ (m k : Nat) (z : Int), k + m = W → z = k → (∀ c, c < k → f (C * C + c) = 0) → pj_WP X m_Subspace_takeIncoming 48 [.inr 0, .inl (C : Int), .inl z, d2] [] (w_S C p w (.inl sz) f) Q := by
  intro m
  induction m with
  | zero =>
    intro k z hk hz h0
    refine wp_b rfl (by omega) (fun c => ?_) (fun c => absurd c (by omega))
    rw [show k = W by omega] at h0
    exact hQ0 h0 z (by omega)
  | succ m ih =>
    intro k z hk hz h0
    have hrg := hv k (by omega)
    obtain ⟨r1, r2⟩ := hrg
    refine wp_b rfl (by omega) (fun c => absurd c (by omega)) (fun c => ?_)
    refine wp_c rfl (by omega) [0, 1] (c_cell (r0 := C) hC rfl hz (Nat.le_refl C) (by omega) ?_) rfl rfl rfl rfl
    refine wp_b rfl (by omega) (fun c => ?_) (fun c => ?_)
    · exact hQ1 k z hz (by omega) h0 c
    · refine wp_g rfl (by omega) ?_
      refine ih (k + 1) _ (by omega) (by omega) (fun c2 hc2 => ?_)
      by_cases h : c2 = k
      · subst h; exact Decidable.of_not_not c
      · exact h0 c2 (by omega)
/-- the rows ahead of the new one lose its lead -/
theorem c_take3 {C W l : Nat} {p w li : Int} {f : Nat → Int} {sz : Int} (hC : C ≤ 25) (hp : nn_p p) (hw : w = W) (hW : W ≤ C) (hl : l < W) (hli : li = l) (hrg : ∀ r c, r < W → c < W → 0 ≤ f (r * C + c) ∧ f (r * C + c) < p) (hv : ∀ c, c < W → 0 ≤ f (C * C + c) ∧ f (C * C + c) < p)
    (hQ : ∀ (g : Nat → Int) (d : pj_V), (∀ r c, r < W → c < W → g (r * C + c) = if r < l then (f (r * C + c) + (p - f (r * C + l)) % p * f (C * C + c)) % p else f (r * C + c)) → (∀ c, c < C → g (C * C + c) = f (C * C + c)) → pj_WP X m_Subspace_takeIncoming 132 [.inr 0, .inl (C : Int), .inl li, d] [] (w_S C p w (.inl sz) g) Q) :
    ∀ (m k : Nat) (g : Nat → Int) (z : Int), k + m = l → z = k → (∀ r c, r < W → c < W → g (r * C + c) = if r < k then (f (r * C + c) + (p - f (r * C + l)) % p * f (C * C + c)) % p else f (r * C + c)) → (∀ c, c < C → g (C * C + c) = f (C * C + c)) → pj_WP X m_Subspace_takeIncoming 104 [.inr 0, .inl (C : Int), .inl li, .inl z] [] (w_S C p w (.inl sz) g) Q := by
  obtain ⟨hp1, hp2, hp3⟩ := nn_p_pos hp
  intro m
  induction m with
  | zero =>
    intro k g z hk hz hg hgv
    refine wp_b rfl (by omega) (fun c => ?_) (fun c => absurd c (by omega))
    rw [show k = l by omega] at hg
    exact hQ g _ hg hgv
  | succ m ih =>
    intro k g z hk hz hg hgv
    have hgk : ∀ c, c < W → g (k * C + c) = f (k * C + c) := fun c hc => by rw [hg k c (by omega) hc, if_neg (by omega)]
    have r1 := hrg k l (by omega) hl
    refine wp_b rfl (by omega) (fun c => absurd c (by omega)) (fun c => ?_)
    refine wp_c rfl (by omega) [0, 1] (c_cell (r0 := k) (c0 := l) hC hz hli (by omega) (by omega) ?_) rfl rfl rfl rfl
    rw [hgk l hl]
    refine wp_c rfl (by omega) [0, 1] (c_addRow (t := k) (s := C) hC hp hw hW hz rfl (by omega) (Nat.le_refl C) (by omega) (fun c hc => by
      rw [hgk c hc]
      exact hrg k c (by omega) hc) (fun c hc => by
      rw [hgv c (by omega)]
      exact hv c hc) (fun f' hrow => ?_)) rfl rfl rfl rfl
    refine wp_g rfl (by omega) ?_
    refine ih (k + 1) f' _ (by omega) (by omega) (fun r c hr hc => ?_) (fun c hc => ?_)
    · rw [hrow r c (by omega) (by omega)]
      by_cases h : r = k
      · subst h
        rw [if_pos ⟨rfl, hc⟩, if_pos (by omega), hgk c hc, hgv c (by omega)]
      · rw [if_neg (fun z => h z.1), hg r c hr hc]
        by_cases h2 : r < k
        · rw [if_pos h2, if_pos (by omega)]
        · rw [if_neg h2, if_neg (by omega)]
    · rw [hrow C c (Nat.le_refl C) hc, if_neg (fun z => by omega)]
      exact hgv c hc
set_option maxHeartbeats 1000000 in
/-- takeIncoming(): the incoming vector comes to the subspace -/
theorem c_take {C W : Nat} {p w sz : Int} {f : Nat → Int} (hC : C ≤ 25) (hp : nn_p p) (hw : w = W) (hW : W ≤ C) (hR : ln_R p W (sb_R C f)) (hv : ∀ c, c < W → 0 ≤ sb_v C f c ∧ sb_v C f c < p)
    (hQ : ∀ (f' : Nat → Int) (b : Bool), ln_join p W (sb_R C f) (sb_v C f) (sb_R C f') b → (∀ c, c < W → f' (C * C + c) = 0) → Q (some (.inl (if b then 1 else 0))) (w_S C p w (.inl (sz + if b then 1 else 0)) f')) : pj_ci X m_Subspace_takeIncoming [.inr 0] (w_S C p w (.inl sz) f) Q := by
  obtain ⟨hp1, hp2, hp3⟩ := nn_p_pos hp
  refine wp_g rfl (by omega) ?_
  refine c_take1 hC hp hw hW hR hv _ (fun f1 d hf1 hv1 he1 => ?_) W 0 f _ (by omega) (by omega) (fun _ _ _ _ => rfl) hv (fun c hc => by
    show nn_eq p _ (sb_v C f c - nn_sm 0 _)
    rw [show nn_sm 0 (fun r => sb_v C f r * sb_R C f r c) = 0 from rfl, Int.sub_zero]
    exact nn_eq_rfl p _)
  have hR1 : ln_R p W (sb_R C f1) := by
    intro r hr
    refine ⟨fun c hc => by show 0 ≤ f1 (r * C + c) ∧ f1 (r * C + c) < p; rw [hf1 r c hr (by omega)]; exact (hR r hr).1 c hc, ?_⟩
    rcases (hR r hr).2 with h | h
    · exact Or.inl fun c hc => by show f1 (r * C + c) = 0; rw [hf1 r c hr (by omega)]; exact h c hc
    · refine Or.inr ⟨by show f1 (r * C + r) = 1; rw [hf1 r r hr (by omega)]; exact h.1, fun c hc => by show f1 (r * C + c) = 0; rw [hf1 r c hr (by omega)]; exact h.2.1 c hc, fun q hq hne => by show f1 (q * C + r) = 0; rw [hf1 q r hq (by omega)]; exact h.2.2 q hq hne⟩
  have hRR : ∀ r c, r < W → c < W → sb_R C f1 r c = sb_R C f r c := fun r c hr hc => hf1 r c hr (by omega)
  have hin := ln_red_in (R := sb_R C f) (v := sb_v C f) he1
  refine wp_g rfl (by omega) ?_
  refine c_take2 hC hw hW (fun c hc => by have := hv1 c hc; have this : 0 ≤ f1 (C * C + c) ∧ f1 (C * C + c) < p := this; unfold pj_rg; omega) _ (fun h0 z hz => ?_) (fun l z hz hl h0 hne => ?_) W 0 _ (by omega) (by omega) (fun c hc => absurd hc (by omega))
  · refine wp_b rfl (by omega) (fun c => absurd c (by omega)) (fun c => ?_)
    refine wp_r rfl (by omega) ?_
    have := hQ f1 false (ln_join_same hR (hin.mpr (fun c hc => by
      show nn_eq p (f1 (C * C + c)) 0
      rw [h0 c hc]
      exact nn_eq_rfl p 0)) hRR) h0
    simpa using this
  · have hvl := hv1 l hl
    have hvl : 0 ≤ f1 (C * C + l) ∧ f1 (C * C + l) < p := hvl
    refine wp_b rfl (by omega) (fun c => ?_) (fun c => absurd c (by omega))
    refine wp_c rfl (by omega) [0, 1] (c_cell (r0 := C) (c0 := l) hC rfl hz (Nat.le_refl C) (by omega) ?_) rfl rfl rfl rfl
    refine wp_c rfl (by omega) [] (c_inverse hp ⟨by omega, hvl.2⟩ (fun y hy1 hy2 hy3 => ?_)) rfl rfl rfl rfl
    refine wp_c rfl (by omega) [0, 1] (c_addRow (t := C) (s := C) hC hp hw hW rfl rfl (Nat.le_refl C) (Nat.le_refl C) (by omega) hv1 hv1 (fun f2 hrow2 => ?_)) rfl rfl rfl rfl
    have hf2 : ∀ r c, r < W → c < W → f2 (r * C + c) = f1 (r * C + c) := fun r c hr hc => by rw [hrow2 r c (by omega) (by omega), if_neg (fun z => by omega)]
    have hv2 : ∀ c, c < W → f2 (C * C + c) = (f1 (C * C + c) + (y - 1) % p * f1 (C * C + c)) % p := fun c hc => by rw [hrow2 C c (Nat.le_refl C) (by omega), if_pos ⟨rfl, hc⟩]
    have hv2g : ∀ c, c < W → 0 ≤ f2 (C * C + c) ∧ f2 (C * C + c) < p := fun c hc => by
      rw [hv2 c hc]
      exact ⟨Int.emod_nonneg _ (by omega), Int.emod_lt_of_pos _ hp1⟩
    have hsc : ln_eq p W (fun c => f2 (C * C + c)) (fun c => y * f1 (C * C + c)) := fun c hc => by
      show nn_eq p (f2 (C * C + c)) (y * f1 (C * C + c))
      rw [hv2 c hc]
      refine nn_eq_trans (nn_eq_mod p _) ?_
      have h9 := nn_eq_add (nn_eq_rfl p (f1 (C * C + c))) (nn_eq_mul (nn_eq_mod p (y - 1)) (nn_eq_rfl p (f1 (C * C + c))))
      rw [Int.sub_mul, Int.one_mul, show f1 (C * C + c) + (y * f1 (C * C + c) - f1 (C * C + c)) = y * f1 (C * C + c) by omega] at h9
      exact h9
    have hrg2 : ∀ r c, r < W → c < W → 0 ≤ f2 (r * C + c) ∧ f2 (r * C + c) < p := fun r c hr hc => by
      rw [hf2 r c hr hc]
      exact (hR1 r hr).1 c hc
    refine wp_g rfl (by omega) ?_
    refine c_take3 hC hp hw hW hl hz hrg2 hv2g (fun g d hg hgv => ?_) l 0 f2 _ (by omega) (by omega) (fun r c hr hc => by rw [if_neg (by omega)]) (fun _ _ => rfl)
    have hgrow : ∀ r c, r < W → c < W → 0 ≤ g (r * C + c) ∧ g (r * C + c) < p := fun r c hr hc => by
      rw [hg r c hr hc]
      split
      · exact ⟨Int.emod_nonneg _ (by omega), Int.emod_lt_of_pos _ hp1⟩
      · exact hrg2 r c hr hc
    have hgv2 : ∀ c, c < W → 0 ≤ g (C * C + c) ∧ g (C * C + c) < p := fun c hc => by rw [hgv c (by omega)]; exact hv2g c hc
    refine wp_c rfl (by omega) [0, 1] (c_addRow (t := l) (s := C) hC hp hw hW hz rfl (by omega) (Nat.le_refl C) (by omega) (fun c hc => hgrow l c hl hc) hgv2 (fun f4 hrow4 => ?_)) rfl rfl rfl rfl
    have hf4v : ∀ c, c < W → f4 (C * C + c) = g (C * C + c) := fun c hc => by rw [hrow4 C c (Nat.le_refl C) (by omega), if_neg (fun z => by omega)]
    have hf4v2 : ∀ c, c < W → 0 ≤ f4 (C * C + c) ∧ f4 (C * C + c) < p := fun c hc => by rw [hf4v c hc]; exact hgv2 c hc
    refine wp_c rfl (by omega) [0, 1] (c_addRow (t := C) (s := C) hC hp hw hW rfl rfl (Nat.le_refl C) (Nat.le_refl C) (by omega) hf4v2 hf4v2 (fun f5 hrow5 => ?_)) rfl rfl rfl rfl
    refine wp_r rfl (by omega) ?_
    have hR' : ∀ r c, r < W → c < W → f5 (r * C + c) = f4 (r * C + c) := fun r c hr hc => by rw [hrow5 r c (by omega) (by omega), if_neg (fun z => by omega)]
    have hlr : sb_R C f l l = 0 := Decidable.byContradiction fun z9 => by
      have h9 := ln_red_lead hR (v := sb_v C f) he1 hl z9
      have h9 : nn_eq p (f1 (C * C + l)) 0 := h9
      exact hne (nn_eq_red h9 hvl ⟨by omega, by omega⟩)
    have hone : f2 (C * C + l) = 1 := by
      have h9 := hsc l hl
      refine nn_eq_red (nn_eq_trans h9 (nn_eq_iff.mpr ?_)) (hv2g l hl) ⟨by omega, by omega⟩
      show (y * f1 (C * C + l)) % p = 1 % p
      rw [hy3, Int.emod_eq_of_lt (by omega) (by omega)]
    have hzero : ∀ c, c < W → nn_eq p (f1 (C * C + c)) 0 → f2 (C * C + c) = 0 := fun c hc h9 => by
      refine nn_eq_red (nn_eq_trans (hsc c hc) ?_) (hv2g c hc) ⟨by omega, by omega⟩
      have h8 := nn_eq_mul (nn_eq_rfl p y) h9
      rw [Int.mul_zero] at h8
      exact h8
    have hl4 : ∀ c, c < W → f5 (l * C + c) = f2 (C * C + c) := fun c hc => by
      rw [hR' l c hl hc, hrow4 l c (by omega) (by omega), if_pos ⟨rfl, hc⟩, hg l c hl hc, if_neg (by omega), hgv c (by omega), hf2 l c hl hc]
      have e0 : f1 (l * C + c) = 0 := by
        rw [hf1 l c hl (by omega)]
        exact ln_R_zero hR hl hc hlr
      have h8 := hv2g c hc
      rw [e0, Int.zero_add, Int.emod_eq_of_lt (a := 1) (by omega) (by omega), Int.one_mul, Int.emod_eq_of_lt h8.1 h8.2]
    have hrr : ∀ r c, r < W → r ≠ l → c < W → (0 ≤ f5 (r * C + c) ∧ f5 (r * C + c) < p) ∧ nn_eq p (f5 (r * C + c)) (f (r * C + c) - f (r * C + l) * f2 (C * C + c)) := fun r c hr hne2 hc => by
      have e5 : f5 (r * C + c) = g (r * C + c) := by rw [hR' r c hr hc, hrow4 r c (by omega) (by omega), if_neg (fun z => hne2 z.1)]
      rw [e5]
      refine ⟨hgrow r c hr hc, ?_⟩
      rw [hg r c hr hc]
      have e6 : f2 (r * C + c) = f (r * C + c) := (hf2 r c hr hc).trans (hf1 r c hr (by omega))
      have e7 : f2 (r * C + l) = f (r * C + l) := (hf2 r l hr hl).trans (hf1 r l hr (by omega))
      by_cases hrl : r < l
      · rw [if_pos hrl, e6, e7]
        refine nn_eq_trans (nn_eq_mod p _) ?_
        have e8 : nn_eq p ((p - f (r * C + l)) % p) (-(f (r * C + l))) := by
          refine nn_eq_trans (nn_eq_mod p _) ?_
          have h9 := nn_eq_sub (nn_eq_iff.mpr (show p % p = 0 % p by rw [Int.emod_self, Int.zero_emod])) (nn_eq_rfl p (f (r * C + l)))
          rw [Int.zero_sub] at h9
          exact h9
        have h9 := nn_eq_add (nn_eq_rfl p (f (r * C + c))) (nn_eq_mul e8 (nn_eq_rfl p (f2 (C * C + c))))
        rw [Int.neg_mul, ← Int.sub_eq_add_neg] at h9
        exact h9
      · rw [if_neg hrl, e6]
        have e9 : f (r * C + l) = 0 := ln_R_low hR hr (show l < r by omega)
        rw [e9, Int.zero_mul, Int.sub_zero]
        exact nn_eq_rfl p _
    have hins := ln_ins (p := p) (w := W) (R := sb_R C f) (R' := sb_R C f5) hR (by omega) (v2 := fun c => f2 (C * C + c)) hl hv2g hone (fun c hc => hzero c (by omega) (by rw [h0 c hc]; exact nn_eq_rfl p 0)) (fun r hr hlead => hzero r hr (ln_red_lead hR (v := sb_v C f) he1 hr hlead)) hl4 hrr
    have hjoin : ln_join p W (sb_R C f) (sb_v C f) (sb_R C f5) true := by
      refine ⟨hins.1, fun W9 hW9 => ?_, ?_, ⟨fun _ h9 => ?_, fun _ => rfl⟩, fun h9 => by cases h9⟩
      · rw [hins.2.1 W9 hW9]
        have hs1 : W9 (sb_v C f1) ↔ W9 (fun c => f2 (C * C + c)) := ln_scale_W hW9 (a := y) (b := f1 (C * C + l)) (by rw [hy3, Int.emod_eq_of_lt (by omega) (by omega)]) hsc
        constructor
        · rintro ⟨a1, a2⟩
          exact ⟨a1, (ln_red_W hW9 a1 he1).mpr (hs1.mpr a2)⟩
        · rintro ⟨a1, a2⟩
          exact ⟨a1, hs1.mp ((ln_red_W hW9 a1 he1).mp a2)⟩
      · exact ln_ct_ins W hl hlr hins.2.2
      · have h8 := hin.mp h9 l hl
        have h8 : nn_eq p (f1 (C * C + l)) 0 := h8
        exact hne (nn_eq_red h8 hvl ⟨by omega, by omega⟩)
    have hfin0 := hQ f5 true hjoin (fun c hc => by
      rw [hrow5 C c (Nat.le_refl C) (by omega), if_pos ⟨rfl, hc⟩]
      have h8 := hf4v2 c hc
      have h9 := nn_eq_add (nn_eq_rfl p (f4 (C * C + c))) (nn_eq_mul (nn_eq_mod p (p - 1)) (nn_eq_rfl p (f4 (C * C + c))))
      rw [nn_eq_iff.mp h9, Int.sub_mul, Int.one_mul, show f4 (C * C + c) + (p * f4 (C * C + c) - f4 (C * C + c)) = p * f4 (C * C + c) by omega, Int.mul_emod_right])
    have hfin : Q (some (.inl 1)) (w_S C p w (.inl (sz + 1)) f5) := by simpa using hfin0
    exact hfin
end SUBS3
