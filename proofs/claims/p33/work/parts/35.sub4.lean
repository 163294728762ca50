/-! Subspace: begin, join, vector -/
section SUBS4
variable {X : pj_X} {Q : pj_Q}
theorem c_min {x y : Int} (hx : pj_rg x) (hy : pj_rg y) (hQ : Q (some (.inl (min x y))) []) : pj_ci X m_Math_min [.inl x, .inl y] [] Q := by
  obtain ⟨a, b⟩ := hx
  obtain ⟨c, d⟩ := hy
  refine wp_b rfl (by omega) (fun k => ?_) (fun k => ?_)
  · refine wp_r rfl (by omega) ?_
    rw [show min x y = y by omega] at hQ
    exact hQ
  · refine wp_r rfl (by omega) ?_
    rw [show min x y = x by omega] at hQ
    exact hQ
theorem c_max {x y : Int} (hx : pj_rg x) (hy : pj_rg y) (hQ : Q (some (.inl (max x y))) []) : pj_ci X m_Math_max [.inl x, .inl y] [] Q := by
  obtain ⟨a, b⟩ := hx
  obtain ⟨c, d⟩ := hy
  refine wp_b rfl (by omega) (fun k => ?_) (fun k => ?_)
  · refine wp_r rfl (by omega) ?_
    rw [show max x y = y by omega] at hQ
    exact hQ
  · refine wp_r rfl (by omega) ?_
    rw [show max x y = x by omega] at hQ
    exact hQ
/-- begin(p, w): the subspace 0 -/
theorem c_Sbegin {C W : Nat} {p w : Int} {f : Nat → Int} (hC : C ≤ 25) (hw : w = W) (hW : W ≤ C) (hQ : Q none (w_S C p w (.inl 0) (fun k => if k < (C + 1) * C then 0 else f k))) : pj_ci X m_Subspace_begin [.inr 0, .inl p, .inl w] [c_S (.inl (C : Int)) (.inr 1) v_u v_u v_u, c_A ((C + 1) * C) f] Q := by
  have h2 := sb_sq hC
  refine wp_c rfl (by omega) [] (c_min (by unfold pj_rg; omega) (by unfold pj_rg; omega) ?_) rfl rfl rfl rfl
  rw [show min w (C : Int) = w by omega]
  refine wp_c rfl (by omega) [] (c_max (by unfold pj_rg; omega) (by unfold pj_rg; omega) ?_) rfl rfl rfl rfl
  rw [show max 0 w = w by omega]
  refine wp_c rfl (by omega) [1] (c_fill (by omega) ?_) rfl rfl rfl rfl
  exact wp_r rfl (by omega) hQ
/-- a subspace as it stands between two calls -/
def sb_ok (C W : Nat) (p : Int) (f : Nat → Int) (sz : Int) : Prop := ln_R p W (sb_R C f) ∧ (∀ c, c < W → f (C * C + c) = 0) ∧ sz = ln_ct (sb_R C f) W
theorem sb_zero {C W : Nat} {p : Int} {f : Nat → Int} (hp : 0 < p) (hW : W ≤ C) : sb_ok C W p (fun k => if k < (C + 1) * C then 0 else f k) 0 ∧ ∀ r c, r < W → c < W → sb_R C (fun k => if k < (C + 1) * C then 0 else f k) r c = 0 := by
  have h0 : ∀ r c, r ≤ C → c < C → (if r * C + c < (C + 1) * C then 0 else f (r * C + c)) = 0 := fun r c hr hc => if_pos (sb_ix hr hc)
  refine ⟨⟨fun r hr => ⟨fun c hc => ?_, Or.inl fun c hc => h0 r c (by omega) (by omega)⟩, fun c hc => h0 C c (Nat.le_refl C) (by omega), ?_⟩, fun r c hr hc => h0 r c (by omega) (by omega)⟩
  · show 0 ≤ (if r * C + c < (C + 1) * C then 0 else f (r * C + c)) ∧ (if r * C + c < (C + 1) * C then 0 else f (r * C + c)) < p
    rw [h0 r c (by omega) (by omega)]
    omega
  · rw [ln_ct_0 W (fun r hr => h0 r r (by omega) (by omega))]
    rfl
theorem c_join_loop {W : Nat} {p w v : Int} {f : Nat → Int} {sz : Int} (hp : nn_p p) (hw : w = W) (hW : W ≤ 5) (hv : 0 ≤ v ∧ v ≤ 2147483647) (hok : sb_ok 5 W p f sz)
    (hQ : ∀ (f' : Nat → Int) (b : Bool), ln_join p W (sb_R 5 f) (nn_dg p v) (sb_R 5 f') b → sb_ok 5 W p f' (sz + if b then 1 else 0) → Q (some (.inl (if b then 1 else 0))) [c_S (.inl 5) (.inr 1) (.inl p) (.inl w) (.inl (sz + if b then 1 else 0)), c_A 30 f', c_T (.inl p) v_u v_u]) :
    ∀ (m k : Nat) (g : Nat → Int) (z : Int), k + m = W → z = k → (∀ r c, r < W → c < W → g (r * 5 + c) = f (r * 5 + c)) → (∀ c, c < W → g (5 * 5 + c) = if c < k then nn_dg p v c else 0) → pj_WP X m_Subspace_join 2 [.inr 0, .inr 2, .inl v, .inl z] [] [c_S (.inl 5) (.inr 1) (.inl p) (.inl w) (.inl sz), c_A 30 g, c_T (.inl p) v_u v_u] Q := by
  obtain ⟨hp1, hp2, hp3⟩ := nn_p_pos hp
  intro m
  induction m with
  | zero =>
    intro k g z hk hz hg hgv
    refine wp_b rfl (by omega) (fun c => ?_) (fun c => absurd c (by omega))
    have hRg : ln_R p W (sb_R 5 g) := by
      intro r hr
      refine ⟨fun c hc => by show 0 ≤ g (r * 5 + c) ∧ g (r * 5 + c) < p; rw [hg r c hr hc]; exact (hok.1 r hr).1 c hc, ?_⟩
      rcases (hok.1 r hr).2 with h | h
      · exact Or.inl fun c hc => by show g (r * 5 + c) = 0; rw [hg r c hr hc]; exact h c hc
      · exact Or.inr ⟨by show g (r * 5 + r) = 1; rw [hg r r hr hr]; exact h.1, fun c hc => by show g (r * 5 + c) = 0; rw [hg r c hr (by omega)]; exact h.2.1 c hc, fun q hq hne => by show g (q * 5 + r) = 0; rw [hg q r hq hr]; exact h.2.2 q hq hne⟩
    have hvv : ∀ c, c < W → sb_v 5 g c = nn_dg p v c := fun c hc => by
      show g (5 * 5 + c) = _
      rw [hgv c hc, if_pos (by omega)]
    refine wp_c rfl (by omega) [0, 1] (c_take (C := 5) (W := W) (by omega) hp hw hW hRg (fun c hc => by rw [hvv c hc]; exact nn_dg_rg hp1 c v) (fun f' b hj h0 => ?_)) rfl rfl rfl rfl
    refine wp_r rfl (by cases b <;> simp) ?_
    have hj2 : ln_join p W (sb_R 5 f) (nn_dg p v) (sb_R 5 f') b := by
      obtain ⟨j1, j2, j3, j4, j5⟩ := hj
      have hsame : ∀ r c, r < W → c < W → sb_R 5 g r c = sb_R 5 f r c := fun r c hr hc => hg r c hr hc
      refine ⟨j1, fun W9 hW9 => ?_, ?_, ?_, fun hb r c hr hc => (j5 hb r c hr hc).trans (hsame r c hr hc)⟩
      · rw [j2 W9 hW9]
        have e1 : ln_g W (sb_R 5 g) W9 ↔ ln_g W (sb_R 5 f) W9 := ⟨fun h r hr => hW9.2.2.2 _ _ (fun c hc => by rw [hsame r c hr hc]; exact nn_eq_rfl p _) (h r hr), fun h r hr => hW9.2.2.2 _ _ (fun c hc => by rw [hsame r c hr hc]; exact nn_eq_rfl p _) (h r hr)⟩
        have e2 : W9 (sb_v 5 g) ↔ W9 (nn_dg p v) := ⟨fun h => hW9.2.2.2 _ _ (fun c hc => by rw [hvv c hc]; exact nn_eq_rfl p _) h, fun h => hW9.2.2.2 _ _ (fun c hc => by rw [hvv c hc]; exact nn_eq_rfl p _) h⟩
        rw [e1, e2]
      · rw [j3, ln_ct_congr W (fun r hr => by rw [hsame r r hr hr])]
      · rw [j4]
        have e3 : ln_in p W (sb_R 5 g) (sb_v 5 g) ↔ ln_in p W (sb_R 5 f) (nn_dg p v) := by
          rw [ln_in_congr hsame]
          exact ⟨fun h => (ln_in_sub _).2.2.2 _ _ (fun c hc => by rw [hvv c hc]; exact nn_eq_rfl p _) h, fun h => (ln_in_sub _).2.2.2 _ _ (fun c hc => by rw [hvv c hc]; exact nn_eq_rfl p _) h⟩
        rw [e3]
    refine hQ f' b hj2 ⟨hj2.1, h0, ?_⟩
    rw [hok.2.2, hj2.2.2.1]
    cases b <;> simp
  | succ m ih =>
    intro k g z hk hz hg hgv
    refine wp_b rfl (by omega) (fun c => absurd c (by omega)) (fun c => ?_)
    have hd := nn_dg_rg hp1 k v
    refine wp_c rfl (by omega) [2] (c_coord (K := k) hp hv (by omega) hz ?_) rfl rfl rfl rfl
    have e0 : g (5 * 5 + k) = 0 := by rw [hgv k (by omega), if_neg (by omega)]
    refine wp_c rfl (by omega) [0, 1] (c_addIncoming (C := 5) (W := W) (c0 := k) (by omega) hp hw hW hz (by omega) (by rw [e0]; omega) (by omega) ?_) rfl rfl rfl rfl
    refine wp_g rfl (by omega) ?_
    refine ih (k + 1) _ _ (by omega) (by omega) (fun r c hr hc => ?_) (fun c hc => ?_)
    · show pj_up g (5 * 5 + k) _ (r * 5 + c) = _
      unfold pj_up
      rw [if_neg (by omega)]
      exact hg r c hr hc
    · show pj_up g (5 * 5 + k) ((g (5 * 5 + k) + nn_dg p v k) % p) (5 * 5 + c) = _
      unfold pj_up
      by_cases h : c = k
      · subst h
        rw [if_pos rfl, if_pos (by omega), e0, Int.zero_add, Int.emod_eq_of_lt hd.1 hd.2]
      · rw [if_neg (by omega), hgv c hc]
        by_cases h2 : c < k
        · rw [if_pos h2, if_pos (by omega)]
        · rw [if_neg h2, if_neg (by omega)]
/-- join(table, v) -/
theorem c_join {W : Nat} {p w v : Int} {f : Nat → Int} {sz : Int} (hp : nn_p p) (hw : w = W) (hW : W ≤ 5) (hv : 0 ≤ v ∧ v ≤ 2147483647) (hok : sb_ok 5 W p f sz)
    (hQ : ∀ (f' : Nat → Int) (b : Bool), ln_join p W (sb_R 5 f) (nn_dg p v) (sb_R 5 f') b → sb_ok 5 W p f' (sz + if b then 1 else 0) → Q (some (.inl (if b then 1 else 0))) [c_S (.inl 5) (.inr 1) (.inl p) (.inl w) (.inl (sz + if b then 1 else 0)), c_A 30 f', c_T (.inl p) v_u v_u]) : pj_ci X m_Subspace_join [.inr 0, .inr 2, .inl v] [c_S (.inl 5) (.inr 1) (.inl p) (.inl w) (.inl sz), c_A 30 f, c_T (.inl p) v_u v_u] Q := by
  refine wp_g rfl (by omega) ?_
  exact c_join_loop hp hw hW hv hok hQ W 0 f _ (by omega) (by omega) (fun _ _ _ _ => rfl) (fun c hc => by rw [hok.2.1 c hc, if_neg (by omega)])
theorem c_row_loop {W r0 : Nat} {p w r : Int} {f : Nat → Int} (hp : nn_p p) (hw : w = W) (hW : W ≤ 5) (hr : r = r0) (hr0 : r0 < W) (hf : ∀ c, c < W → 0 ≤ f (r0 * 5 + c) ∧ f (r0 * 5 + c) < p)
    (hQ : Q (some (.inl (nn_nm p W (sb_R 5 f r0)))) [c_S (.inl 5) (.inr 1) (.inl p) (.inl w) v_u, c_A 30 f]) :
    ∀ (m k : Nat) (v u z : Int), k + m = W → z = k → v = nn_nm p k (sb_R 5 f r0) → u = p ^ k → pj_WP X m_Subspace_rowAsVector 7 [.inr 0, .inl r, .inl v, .inl u, .inl z] [] [c_S (.inl 5) (.inr 1) (.inl p) (.inl w) v_u, c_A 30 f] Q := by
  intro m
  induction m with
  | zero =>
    intro k v u z hk hz hv hu
    refine wp_b rfl (by omega) (fun c => ?_) (fun c => absurd c (by omega))
    refine wp_r rfl (by omega) ?_
    rw [hv, show k = W by omega]
    exact hQ
  | succ m ih =>
    intro k v u z hk hz hv hu
    refine wp_b rfl (by omega) (fun c => absurd c (by omega)) (fun c => ?_)
    refine wp_c rfl (by omega) [0, 1] (c_cell (C := 5) (r0 := r0) (c0 := k) (by omega) hr hz (by omega) (by omega) ?_) rfl rfl rfl rfl
    refine wp_g rfl (by omega) ?_
    exact ih (k + 1) _ _ _ (by omega) (by omega) (by rw [hv, hu, nn_nm_last]) (by rw [hu, Int.pow_succ])
/-- rowAsVector(row) -/
theorem c_row {W r0 : Nat} {p w r : Int} {f : Nat → Int} (hp : nn_p p) (hw : w = W) (hW : W ≤ 5) (hr : r = r0) (hr0 : r0 < W) (hf : ∀ c, c < W → 0 ≤ f (r0 * 5 + c) ∧ f (r0 * 5 + c) < p)
    (hQ : Q (some (.inl (nn_nm p W (sb_R 5 f r0)))) [c_S (.inl 5) (.inr 1) (.inl p) (.inl w) v_u, c_A 30 f]) : pj_ci X m_Subspace_rowAsVector [.inr 0, .inl r] [c_S (.inl 5) (.inr 1) (.inl p) (.inl w) v_u, c_A 30 f] Q := by
  refine wp_g rfl (by omega) ?_
  exact c_row_loop hp hw hW hr hr0 hf hQ W 0 _ _ _ (by omega) (by omega) rfl (by rw [Int.pow_zero])
theorem c_vector_loop {W : Nat} {p w i : Int} {I : Nat} {f : Nat → Int} (hp : nn_p p) (hw : w = W) (hW : W ≤ 5) (hi : i = I) (hI : I ≤ 2147483647) (hR : ln_R p W (sb_R 5 f))
    (hQ1 : ∀ r, r < W → sb_R 5 f r r ≠ 0 → ln_ct (sb_R 5 f) r = I → Q (some (.inl (nn_nm p W (sb_R 5 f r)))) [c_S (.inl 5) (.inr 1) (.inl p) (.inl w) v_u, c_A 30 f])
    (hQ0 : ln_ct (sb_R 5 f) W ≤ I → Q (some (.inl (-9))) [c_S (.inl 5) (.inr 1) (.inl p) (.inl w) v_u, c_A 30 f]) :
    ∀ (m k : Nat) (b z : Int), k + m = W → z = k → b = ln_ct (sb_R 5 f) k → ln_ct (sb_R 5 f) k ≤ I → pj_WP X m_Subspace_vector 4 [.inr 0, .inl i, .inl b, .inl z] [] [c_S (.inl 5) (.inr 1) (.inl p) (.inl w) v_u, c_A 30 f] Q := by
  obtain ⟨hp1, hp2, hp3⟩ := nn_p_pos hp
  intro m
  induction m with
  | zero =>
    intro k b z hk hz hb hle
    refine wp_b rfl (by omega) (fun c => ?_) (fun c => absurd c (by omega))
    refine wp_r rfl (by omega) (hQ0 (by rw [show k = W by omega] at hle; exact hle))
  | succ m ih =>
    intro k b z hk hz hb hle
    have hkW : k < W := by omega
    have hct := ln_ct_w (sb_R 5 f) k
    have hrg := (hR k hkW).1 k hkW
    have hrg : 0 ≤ f (k * 5 + k) ∧ f (k * 5 + k) < p := hrg
    refine wp_b rfl (by omega) (fun c => absurd c (by omega)) (fun c => ?_)
    refine wp_c rfl (by omega) [0, 1] (c_hasLead (C := 5) (c0 := k) (by omega) hz (by omega) (by unfold pj_rg; omega) (fun hl => ?_) (fun hl => ?_)) rfl rfl rfl rfl
    · refine wp_b rfl (by omega) (fun c => absurd c (by omega)) (fun c => ?_)
      refine wp_b rfl (by omega) (fun c2 => ?_) (fun c2 => ?_)
      · refine wp_g rfl (by omega) ?_
        have e : ln_ct (sb_R 5 f) (k + 1) = ln_ct (sb_R 5 f) k + 1 := by
          show ln_ct (sb_R 5 f) k + (if f (k * 5 + k) = 0 then 0 else 1) = _
          rw [if_neg hl]
        exact ih (k + 1) _ _ (by omega) (by omega) (by rw [e, hb]; omega) (by rw [e]; omega)
      · refine wp_c rfl (by omega) [0, 1] (c_row (W := W) (r0 := k) hp hw hW hz hkW (fun c hc => (hR k hkW).1 c hc) ?_) rfl rfl rfl rfl
        exact wp_r rfl (by omega) (hQ1 k hkW hl (by have := Decidable.of_not_not c2; omega))
    · refine wp_b rfl (by omega) (fun c => ?_) (fun c => absurd rfl c)
      refine wp_g rfl (by omega) ?_
      have e : ln_ct (sb_R 5 f) (k + 1) = ln_ct (sb_R 5 f) k := by
        show ln_ct (sb_R 5 f) k + (if f (k * 5 + k) = 0 then 0 else 1) = _
        rw [if_pos hl]
        rfl
      exact ih (k + 1) _ _ (by omega) (by omega) (by rw [e, hb]) (by rw [e]; exact hle)
/-- vector(index) -/
theorem c_vector {W : Nat} {p w i : Int} {I : Nat} {f : Nat → Int} (hp : nn_p p) (hw : w = W) (hW : W ≤ 5) (hi : i = I) (hI : I ≤ 2147483647) (hR : ln_R p W (sb_R 5 f))
    (hQ1 : ∀ r, r < W → sb_R 5 f r r ≠ 0 → ln_ct (sb_R 5 f) r = I → Q (some (.inl (nn_nm p W (sb_R 5 f r)))) [c_S (.inl 5) (.inr 1) (.inl p) (.inl w) v_u, c_A 30 f])
    (hQ0 : ln_ct (sb_R 5 f) W ≤ I → Q (some (.inl (-9))) [c_S (.inl 5) (.inr 1) (.inl p) (.inl w) v_u, c_A 30 f]) : pj_ci X m_Subspace_vector [.inr 0, .inl i] [c_S (.inl 5) (.inr 1) (.inl p) (.inl w) v_u, c_A 30 f] Q := by
  refine wp_g rfl (by omega) ?_
  exact c_vector_loop hp hw hW hi hI hR hQ1 hQ0 W 0 _ _ (by omega) (by omega) rfl (Nat.zero_le _)
end SUBS4
