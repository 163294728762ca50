/-! Subspace: addRow, takeIncoming -/
section SUBS2
variable {X : pj_X} {Q : pj_Q}
abbrev w_S (C : Nat) (p w : Int) (sz : pj_V) (f : Nat → Int) : List pj_C := [c_S (.inl (C : Int)) (.inr 1) (.inl p) (.inl w) sz, c_A ((C + 1) * C) f]
/-- what addRow does to the cells -/
def sb_row (p : Int) (C W to from_ : Nat) (fac : Int) (f f' : Nat → Int) : Prop := ∀ r c, r ≤ C → c < C → f' (r * C + c) = if r = to ∧ c < W then (f (to * C + c) + fac * f (from_ * C + c)) % p else f (r * C + c)
theorem c_addRow_loop {C W t s : Nat} {p w fac : Int} {f : Nat → Int} (hC : C ≤ 25) (hp : nn_p p) (hw : w = W) (hW : W ≤ C) (ht : t ≤ C) (hs : s ≤ C) (hfac : 0 ≤ fac ∧ fac < p) (hft : ∀ c, c < W → 0 ≤ f (t * C + c) ∧ f (t * C + c) < p) (hfs : ∀ c, c < W → 0 ≤ f (s * C + c) ∧ f (s * C + c) < p) (d1 d2 d3 : pj_V) (hQ : ∀ f', sb_row p C W t s fac f f' → Q none (w_S C p w v_u f')) :
    ∀ (m k : Nat) (g : Nat → Int) (z tt ss : Int), k + m = W → z = k → tt = ((t * C : Nat) : Int) → ss = ((s * C : Nat) : Int) → sb_row p C k t s fac f g → pj_WP X m_Subspace_addRow 66 [.inr 0, d1, d2, d3, .inl fac, .inl tt, .inl ss, .inl z] [] (w_S C p w v_u g) Q := by
  obtain ⟨hp1, hp2, hp3⟩ := nn_p_pos hp
  intro m
  induction m with
  | zero =>
    intro k g z tt ss hk hz htt hss hg
    refine wp_b rfl (by omega) (fun c => ?_) (fun c => absurd c (by omega))
    refine wp_r rfl (by omega) ?_
    rw [show k = W by omega] at hg
    exact hQ g hg
  | succ m ih =>
    intro k g z tt ss hk hz htt hss hg
    have i1 := sb_ix ht (show k < C by omega)
    have i2 := sb_ix hs (show k < C by omega)
    have i3 := sb_sq hC
    have e1 : (tt + z).toNat = t * C + k := by rw [htt, hz]; omega
    have e2 : (ss + z).toNat = s * C + k := by rw [hss, hz]; omega
    have g1 : g (t * C + k) = f (t * C + k) := by rw [hg t k ht (by omega), if_neg (by omega)]
    have g2 : g (s * C + k) = f (s * C + k) := by rw [hg s k hs (by omega), if_neg (by omega)]
    have r1 := hft k (by omega)
    have r2 := nn_f7 hp hfac (hfs k (by omega))
    refine wp_b rfl (by omega) (fun c => absurd c (by omega)) (fun c => ?_)
    refine wp_g rfl ?_ ?_
    · rw [e1, e2, g1, g2]
      omega
    · refine ih (k + 1) _ _ _ _ (by omega) (by omega) htt hss ?_
      intro r c hr hc
      show pj_up g (tt + z).toNat ((g (tt + z).toNat + fac * g (ss + z).toNat).tmod p) (r * C + c) = _
      rw [e1, e2, g1, g2, Int.tmod_eq_emod_of_nonneg (by omega)]
      unfold pj_up
      by_cases h : r * C + c = t * C + k
      · obtain ⟨ha, hb⟩ := sb_ne hc (show k < C by omega) h
        subst ha hb
        rw [if_pos rfl, if_pos ⟨rfl, by omega⟩]
      · rw [if_neg h, hg r c hr hc]
        by_cases h2 : r = t ∧ c < k
        · rw [if_pos h2, if_pos ⟨h2.1, by omega⟩]
        · rw [if_neg h2, if_neg]
          rintro ⟨ha, hb⟩
          subst ha
          exact h2 ⟨rfl, by
            have : c ≠ k := fun e => h (by rw [e])
            omega⟩
/-- addRow(to, from, factor) -/
theorem c_addRow {C W t s : Nat} {p w fac : Int} {f : Nat → Int} {ti si : Int} (hC : C ≤ 25) (hp : nn_p p) (hw : w = W) (hW : W ≤ C) (hti : ti = t) (hsi : si = s) (ht : t ≤ C) (hs : s ≤ C) (hfac : 0 ≤ fac ∧ fac ≤ 1000) (hft : ∀ c, c < W → 0 ≤ f (t * C + c) ∧ f (t * C + c) < p) (hfs : ∀ c, c < W → 0 ≤ f (s * C + c) ∧ f (s * C + c) < p) (hQ : ∀ f', sb_row p C W t s (fac % p) f f' → Q none (w_S C p w v_u f')) : pj_ci X m_Subspace_addRow [.inr 0, .inl ti, .inl si, .inl fac] (w_S C p w v_u f) Q := by
  obtain ⟨hp1, hp2, hp3⟩ := nn_p_pos hp
  have e1 : fac.tmod p = fac % p := Int.tmod_eq_emod_of_nonneg hfac.1
  have e2 := Int.emod_nonneg fac (show p ≠ 0 by omega)
  have e3 := Int.emod_lt_of_pos fac hp1
  refine wp_b rfl (by omega) (fun k => absurd k (by omega)) (fun k => ?_)
  refine wp_b rfl (by omega) (fun k => absurd k (by omega)) (fun k => ?_)
  refine wp_b rfl (by omega) (fun k => absurd k (by omega)) (fun k => ?_)
  refine wp_b rfl (by omega) (fun k => absurd k (by omega)) (fun k => ?_)
  refine wp_b rfl (by omega) (fun k => ?_) (fun k => absurd k (by omega))
  refine wp_b rfl (by omega) (fun k => ?_) (fun k => ?_)
  · refine wp_g rfl (by omega) ?_
    rw [e1]
    exact c_addRow_loop hC hp hw hW ht hs ⟨e2, e3⟩ hft hfs _ _ _ hQ W 0 f _ _ _ (by omega) (by omega) (by rw [hti]; simp) (by rw [hsi]; simp) (fun r c hr hc => by rw [if_neg (by omega)])
  · refine wp_r rfl (by omega) ?_
    refine hQ f (fun r c hr hc => ?_)
    have h0 : fac % p = 0 := by rw [← e1]; exact Decidable.of_not_not k
    rw [h0, Int.zero_mul, Int.add_zero]
    by_cases h : r = t ∧ c < W
    · rw [if_pos h, h.1, Int.emod_eq_of_lt (hft c h.2).1 (hft c h.2).2]
    · rw [if_neg h]
/-- the matrix of the cells; the row that comes in -/
abbrev sb_R (C : Nat) (f : Nat → Int) : Nat → ln_V := fun r c => f (r * C + c)
abbrev sb_v (C : Nat) (f : Nat → Int) : ln_V := fun c => f (C * C + c)
set_option maxHeartbeats 1000000 in
theorem c_take1 {C W : Nat} {p w : Int} {f : Nat → Int} {sz : Int} (hC : C ≤ 25) (hp : nn_p p) (hw : w = W) (hW : W ≤ C) (hR : ln_R p W (sb_R C f)) (hv : ∀ c, c < W → 0 ≤ sb_v C f c ∧ sb_v C f c < p) (d2 : pj_V)
    (hQ : ∀ (f' : Nat → Int) (d : pj_V), (∀ r c, r < W → c < C → f' (r * C + c) = f (r * C + c)) → (∀ c, c < W → 0 ≤ sb_v C f' c ∧ sb_v C f' c < p) → ln_eq p W (sb_v C f') (fun c => sb_v C f c - nn_sm W (fun r => sb_v C f r * sb_R C f r c)) → pj_WP X m_Subspace_takeIncoming 46 [.inr 0, .inl (C : Int), d, d2] [] (w_S C p w (.inl sz) f') Q) :
    ∀ (m k : Nat) (g : Nat → Int) (z : Int), k + m = W → z = k → (∀ r c, r < W → c < C → g (r * C + c) = f (r * C + c)) → (∀ c, c < W → 0 ≤ sb_v C g c ∧ sb_v C g c < p) → ln_eq p W (sb_v C g) (fun c => sb_v C f c - nn_sm k (fun r => sb_v C f r * sb_R C f r c)) → pj_WP X m_Subspace_takeIncoming 7 [.inr 0, .inl (C : Int), .inl z, d2] [] (w_S C p w (.inl sz) g) Q := by
  obtain ⟨hp1, hp2, hp3⟩ := nn_p_pos hp
  intro m
  induction m with
  | zero =>
    intro k g z hk hz hg hgv hge
    refine wp_b rfl (by omega) (fun c => ?_) (fun c => absurd c (by omega))
    rw [show k = W by omega] at hge
    exact hQ g _ hg hgv hge
  | succ m ih =>
    intro k g z hk hz hg hgv hge
    have hkW : k < W := by omega
    have hrgk : pj_rg (g (k * C + k)) := by
      rw [hg k k hkW (by omega)]
      have := (hR k hkW).1 k hkW
      have this : 0 ≤ f (k * C + k) ∧ f (k * C + k) < p := this
      unfold pj_rg; omega
    refine wp_b rfl (by omega) (fun c => absurd c (by omega)) (fun c => ?_)
    refine wp_c rfl (by omega) [0, 1] (c_hasLead hC hz (by omega) hrgk (fun hl => ?_) (fun hl => ?_)) rfl rfl rfl rfl
    · refine wp_b rfl (by omega) (fun c => absurd c (by omega)) (fun c => ?_)
      refine wp_c rfl (by omega) [0, 1] (c_cell (r0 := C) hC rfl hz (Nat.le_refl C) (by omega) ?_) rfl rfl rfl rfl
      have hvk := hgv k hkW
      have hvk : 0 ≤ g (C * C + k) ∧ g (C * C + k) < p := hvk
      have hlf : sb_R C f k k ≠ 0 := by
        show f (k * C + k) ≠ 0
        rw [← hg k k hkW (by omega)]
        exact hl
      refine wp_c rfl (by omega) [0, 1] (c_addRow (t := C) (s := k) hC hp hw hW rfl hz (Nat.le_refl C) (by omega) (by omega) hgv (fun c hc => by
        rw [hg k c hkW (by omega)]
        exact (hR k hkW).1 c hc) (fun f' hrow => ?_)) rfl rfl rfl rfl
      refine wp_g rfl (by omega) ?_
      have hne : ∀ r, r < W → r ≠ C := fun r hr => by omega
      have hin : ∀ c, c < W → sb_v C f' c = (g (C * C + c) + (p - g (C * C + k)) % p * g (k * C + c)) % p := fun c hc => by
        show f' (C * C + c) = _
        rw [hrow C c (Nat.le_refl C) (by omega), if_pos ⟨rfl, hc⟩]
      refine ih (k + 1) f' _ (by omega) (by omega) (fun r c hr hc => ?_) (fun c hc => ?_) (fun c hc => ?_)
      · rw [hrow r c (by omega) hc, if_neg (fun h => hne r hr h.1)]
        exact hg r c hr hc
      · rw [hin c hc]
        exact ⟨Int.emod_nonneg _ (by omega), Int.emod_lt_of_pos _ hp1⟩
      · rw [hin c hc]
        refine nn_eq_trans (nn_eq_mod p _) ?_
        show nn_eq p _ (sb_v C f c - (nn_sm k (fun r => sb_v C f r * sb_R C f r c) + sb_v C f k * sb_R C f k c))
        have e1 : nn_eq p (g (C * C + k)) (sb_v C f k) := by
          have h9 := hge k hkW
          have h9 : nn_eq p (sb_v C g k) (sb_v C f k - nn_sm k (fun r => sb_v C f r * sb_R C f r k)) := h9
          rw [nn_sm_0 k (fun r hr => by rw [ln_R_col hR hkW (show r < W by omega) hlf (by omega), Int.mul_zero]), Int.sub_zero] at h9
          exact h9
        have e2 : nn_eq p ((p - g (C * C + k)) % p) (-(sb_v C f k)) := by
          refine nn_eq_trans (nn_eq_mod p _) ?_
          have h9 := nn_eq_sub (nn_eq_iff.mpr (show p % p = 0 % p by rw [Int.emod_self, Int.zero_emod])) e1
          rw [Int.zero_sub] at h9
          exact h9
        have e3 := nn_eq_add (hge c hc) (nn_eq_mul e2 (nn_eq_rfl p (sb_R C f k c)))
        have e4 : g (k * C + c) = sb_R C f k c := hg k c hkW (by omega)
        rw [e4]
        refine nn_eq_trans e3 ?_
        show nn_eq p (sb_v C f c - nn_sm k (fun r => sb_v C f r * sb_R C f r c) + -(sb_v C f k) * sb_R C f k c) _
        rw [Int.neg_mul, show sb_v C f c - nn_sm k (fun r => sb_v C f r * sb_R C f r c) + -(sb_v C f k * sb_R C f k c) = sb_v C f c - (nn_sm k (fun r => sb_v C f r * sb_R C f r c) + sb_v C f k * sb_R C f k c) by omega]
        exact nn_eq_rfl p _
    · refine wp_b rfl (by omega) (fun c => ?_) (fun c => absurd rfl c)
      refine wp_g rfl (by omega) ?_
      refine ih (k + 1) g _ (by omega) (by omega) hg hgv (fun c hc => ?_)
      have h0 : sb_R C f k c = 0 := ln_R_zero hR hkW hc (by
        show f (k * C + k) = 0
        rw [← hg k k hkW (by omega)]
        exact hl)
      have h9 := hge c hc
      show nn_eq p (sb_v C g c) (sb_v C f c - (nn_sm k (fun r => sb_v C f r * sb_R C f r c) + sb_v C f k * sb_R C f k c))
      rw [h0, Int.mul_zero, Int.add_zero]
      exact h9
end SUBS2
