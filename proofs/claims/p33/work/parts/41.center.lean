/-! Subspace.solveInto, Spaces.center -/
def ln_vf (R : Nat → ln_V) (f : Nat) : ln_V := fun c => if c = f then 1 else -(R c f)
def ln_ker (p : Int) (N : Nat) (R : Nat → ln_V) : ln_P := fun x => ∀ r, r < N → nn_eq p (nn_sm N (fun c => R r c * x c)) 0
section CEN
variable {X : pj_X} {Q : pj_Q} {p n : Int} {N : Nat} {T : Nat → Nat → Nat → Int} {br : Nat → Int}
/-- the x whose product with y is 0 -/
theorem ln_dot_sub (y : ln_V) : ln_sub p N (fun x => nn_eq p (nn_sm N (fun c => y c * x c)) 0) := by
  refine ⟨?_, fun x z hx hz => ?_, fun a x hx => ?_, fun x z e hx => ?_⟩
  · show nn_eq p (nn_sm N (fun c => y c * 0)) 0
    rw [nn_sm_0 N (fun c _ => Int.mul_zero _)]
    exact nn_eq_rfl p 0
  · have e : nn_sm N (fun c => y c * (x c + z c)) = nn_sm N (fun c => y c * x c) + nn_sm N (fun c => y c * z c) := by
      rw [← nn_sm_add]
      exact nn_sm_congr N (fun c _ => Int.mul_add _ _ _)
    show nn_eq p (nn_sm N (fun c => y c * (x c + z c))) 0
    rw [e]
    exact nn_eq_add hx hz
  · have e : nn_sm N (fun c => y c * (a * x c)) = a * nn_sm N (fun c => y c * x c) := by
      rw [← nn_sm_mul]
      exact nn_sm_congr N (fun c _ => Int.mul_left_comm _ _ _)
    show nn_eq p (nn_sm N (fun c => y c * (a * x c))) 0
    rw [e]
    have := nn_eq_mul (nn_eq_rfl p a) hx
    rw [Int.mul_zero] at this
    exact this
  · exact nn_eq_trans (nn_eq_sm N (fun c hc => nn_eq_mul (nn_eq_rfl p _) (nn_eq_symm (e c hc)))) hx
theorem ln_ker_sub (R : Nat → ln_V) : ln_sub p N (ln_ker p N R) :=
  ⟨fun r _ => (ln_dot_sub (R r)).1, fun x y hx hy r hr => (ln_dot_sub (R r)).2.1 _ _ (hx r hr) (hy r hr), fun a x hx r hr => (ln_dot_sub (R r)).2.2.1 a _ (hx r hr), fun x y e hx r hr => (ln_dot_sub (R r)).2.2.2 _ _ e (hx r hr)⟩
theorem ln_vf_ker {R : Nat → ln_V} (hR : ln_R p N R) {f : Nat} (hf : f < N) (h0 : R f f = 0) : ln_ker p N R (ln_vf R f) := by
  intro r hr
  by_cases hl : R r r = 0
  · rw [nn_sm_0 N (fun c hc => by rw [ln_R_zero hR hr hc hl, Int.zero_mul])]
    exact nn_eq_rfl p 0
  · have hrf : r ≠ f := fun e => hl (e ▸ h0)
    have e : nn_sm N (fun c => R r c * ln_vf R f c) = nn_sm N (fun c => if c = f then R r f else 0) + nn_sm N (fun c => if c = r then -(R r f) else 0) := by
      rw [← nn_sm_add]
      refine nn_sm_congr N (fun c hc => ?_)
      unfold ln_vf
      by_cases h1 : c = f
      · subst h1
        rw [if_pos rfl, if_pos rfl, if_neg (fun z => hrf z.symm), Int.mul_one]
        omega
      · rw [if_neg h1, if_neg h1]
        by_cases h2 : c = r
        · subst h2
          rw [if_pos rfl, ln_R_one hR hr hl]
          omega
        · rw [if_neg h2]
          by_cases h3 : R c c = 0
          · rw [ln_R_zero hR hc hf h3, Int.neg_zero, Int.mul_zero]
            rfl
          · rw [ln_R_col hR hc hr h3 (fun z => h2 z.symm), Int.zero_mul]
            rfl
    rw [e, nn_sm_one N f hf (fun c _ hne => if_neg hne), nn_sm_one N r hr (fun c _ hne => if_neg hne), if_pos rfl, if_pos rfl]
    have : R r f + -(R r f) = 0 := by omega
    rw [this]
    exact nn_eq_rfl p 0
theorem ln_ker_is {R R' : Nat → ln_V} (hR : ln_R p N R) (hR' : ln_R p N R') (h : ∀ K, ln_sub p N K → (ln_g N R' K ↔ ∀ f, f < N → R f f = 0 → K (ln_vf R f))) : ds_is p N R' (ln_ker p N R) := by
  refine ⟨hR', fun x => ⟨fun hx => ?_, fun hx => ?_⟩⟩
  · exact ln_in_W (ln_ker_sub R) ((h _ (ln_ker_sub R)).mpr (fun f hf h0 => ln_vf_ker hR hf h0)) hx
  · rw [ln_in_iff hR']
    intro K hK hg
    have hv := (h K hK).mp hg
    have h1 := ln_sub_sm hK (R := fun f => if R f f = 0 then ln_vf R f else fun _ => 0) x N (fun f hf => by
      by_cases h0 : R f f = 0
      · show K (if R f f = 0 then ln_vf R f else fun _ => 0)
        rw [if_pos h0]
        exact hv f hf h0
      · show K (if R f f = 0 then ln_vf R f else fun _ => 0)
        rw [if_neg h0]
        exact hK.1)
    refine hK.2.2.2 _ _ (fun c hc => ?_) h1
    show nn_eq p (nn_sm N (fun r => x r * (if R r r = 0 then ln_vf R r else fun _ => 0) c)) (x c)
    by_cases hl : R c c = 0
    · rw [nn_sm_one N c hc (fun r hr hne => ?_), if_pos hl]
      · unfold ln_vf
        rw [if_pos rfl, Int.mul_one]
        exact nn_eq_rfl p _
      · by_cases h2 : R r r = 0
        · rw [if_pos h2]
          unfold ln_vf
          rw [if_neg (fun z => hne z.symm), ln_R_zero hR hc hr hl, Int.neg_zero, Int.mul_zero]
        · rw [if_neg h2, Int.mul_zero]
    · have e1 : nn_sm N (fun r => x r * (if R r r = 0 then ln_vf R r else fun _ => 0) c) + nn_sm N (fun r => R c r * x r) = nn_sm N (fun r => if r = c then x c else 0) := by
        rw [← nn_sm_add]
        refine nn_sm_congr N (fun r hr => ?_)
        by_cases h1 : r = c
        · subst h1
          rw [if_neg hl, if_pos rfl, ln_R_one hR hc hl, Int.mul_zero, Int.one_mul, Int.zero_add]
        · rw [if_neg h1]
          by_cases h2 : R r r = 0
          · rw [if_pos h2]
            unfold ln_vf
            rw [if_neg (fun z => h1 z.symm), Int.mul_neg, Int.mul_comm]
            omega
          · rw [if_neg h2, Int.mul_zero, ln_R_col hR hr hc h2 (fun z => h1 z.symm), Int.zero_mul]
            rfl
      have e2 := hx c hc
      have e3 := nn_eq_sub (nn_eq_rfl p (nn_sm N (fun r => x r * (if R r r = 0 then ln_vf R r else fun _ => 0) c) + nn_sm N (fun r => R c r * x r))) e2
      rw [Int.add_sub_cancel, Int.sub_zero, e1, nn_sm_one N c hc (fun r _ hne => if_neg hne), if_pos rfl] at e3
      exact e3
abbrev w_V (p n z1 z2 : Int) (f1 f2 : Nat → Int) : List pj_C := [c_S (.inl 5) (.inr 1) (.inl p) (.inl n) (.inl z1), c_A 30 f1, c_S (.inl 5) (.inr 3) (.inl p) (.inl n) (.inl z2), c_A 30 f2]
theorem c_solve_in (hp : nn_p p) (hN : N ≤ 5) (hn : n = N) {f1 g0 : Nat → Int} {z1 z2 : Int} (hR : ln_R p N (sb_R 5 f1)) (h0 : ∀ c, c < N → g0 (5 * 5 + c) = 0) {fr : Int} {F : Nat} (hF : fr = F) (hFN : F < N)
    (hQ : ∀ (g : Nat → Int) (d : pj_V), (∀ r c, r < N → c < N → g (r * 5 + c) = g0 (r * 5 + c)) → (∀ c, c < N → g (5 * 5 + c) = ln_vf (sb_R 5 f1) F c % p) → pj_WP X m_Subspace_solveInto 67 [.inr 0, .inr 2, .inl fr, d] [] (w_V p n z1 z2 f1 g) Q) :
    ∀ (m k : Nat) (g : Nat → Int) (z : Int), k + m = N → z = k → (∀ r c, r < N → c < N → g (r * 5 + c) = g0 (r * 5 + c)) → (∀ c, c < N → g (5 * 5 + c) = if c < k then ln_vf (sb_R 5 f1) F c % p else 0) → pj_WP X m_Subspace_solveInto 32 [.inr 0, .inr 2, .inl fr, .inl z] [] (w_V p n z1 z2 f1 g) Q := by
  obtain ⟨hp1, hp2, hp3⟩ := nn_p_pos hp
  intro m
  induction m with
  | zero =>
    intro k g z hk hz hg hgv
    refine wp_b rfl (by omega) (fun c => ?_) (fun c => absurd c (by omega))
    exact hQ g _ hg (fun c hc => by rw [hgv c hc, if_pos (by omega)])
  | succ m ih =>
    intro k g z hk hz hg hgv
    have e0 : g (5 * 5 + k) = 0 := by rw [hgv k (by omega), if_neg (by omega)]
    have next : ∀ x : Int, x % p = ln_vf (sb_R 5 f1) F k % p → pj_WP X m_Subspace_solveInto 61 [.inr 0, .inr 2, .inl fr, .inl z] [] (w_V p n z1 z2 f1 (pj_up g (5 * 5 + k) ((g (5 * 5 + k) + x) % p))) Q := by
      intro x hx
      refine wp_g rfl (by omega) ?_
      refine ih (k + 1) _ _ (by omega) (by omega) (fun r c hr hc => ?_) (fun c hc => ?_)
      · unfold pj_up
        rw [if_neg (by omega)]
        exact hg r c hr hc
      · unfold pj_up
        by_cases h : c = k
        · subst h
          rw [if_pos rfl, if_pos (by omega), e0, Int.zero_add, hx]
        · rw [if_neg (by omega), hgv c hc]
          by_cases h2 : c < k
          · rw [if_pos h2, if_pos (by omega)]
          · rw [if_neg h2, if_neg (by omega)]
    refine wp_b rfl (by omega) (fun c => absurd c (by omega)) (fun c => ?_)
    refine wp_b rfl (by omega) (fun c => ?_) (fun c => ?_)
    · have hrg := (hR k (by omega)).1 F hFN
      have hrg : 0 ≤ f1 (k * 5 + F) ∧ f1 (k * 5 + F) < p := hrg
      refine wp_c rfl (by omega) [0, 1] (c_cell (C := 5) (r0 := k) (c0 := F) (by omega) hz hF (by omega) (by omega) ?_) rfl rfl rfl rfl
      refine wp_c rfl (by omega) [2, 3] (c_addIncoming (C := 5) (W := N) (c0 := k) (by omega) hp hn hN hz (by omega) (by rw [e0]; omega) (by omega) ?_) rfl rfl rfl rfl
      refine wp_h (w_V p n z1 z2 f1 (pj_up g (5 * 5 + k) ((g (5 * 5 + k) + -(f1 (k * 5 + F))) % p))) rfl ?_
      refine next _ ?_
      unfold ln_vf
      rw [if_neg (by omega)]
    · refine wp_c rfl (by omega) [2, 3] (c_addIncoming (C := 5) (W := N) (c0 := k) (by omega) hp hn hN hz (by omega) (by rw [e0]; omega) (by omega) ?_) rfl rfl rfl rfl
      refine wp_h (w_V p n z1 z2 f1 (pj_up g (5 * 5 + k) ((g (5 * 5 + k) + 1) % p))) rfl ?_
      refine next _ ?_
      unfold ln_vf
      rw [if_pos (by omega)]
theorem ln_R_same {R R' : Nat → ln_V} (hR : ln_R p N R) (hs : ∀ r c, r < N → c < N → R' r c = R r c) : ln_R p N R' := by
  intro r hr
  refine ⟨fun c hc => by rw [hs r c hr hc]; exact (hR r hr).1 c hc, ?_⟩
  rcases (hR r hr).2 with h | h
  · exact Or.inl fun c hc => by rw [hs r c hr hc]; exact h c hc
  · exact Or.inr ⟨by rw [hs r r hr hr]; exact h.1, fun c hc => by rw [hs r c hr (by omega)]; exact h.2.1 c hc, fun q hq hne => by rw [hs q r hq hr]; exact h.2.2 q hq hne⟩
theorem ln_g_same {R R' : Nat → ln_V} {K : ln_P} (hK : ln_sub p N K) (hs : ∀ r c, r < N → c < N → R' r c = R r c) : ln_g N R' K ↔ ln_g N R K :=
  ⟨fun h r hr => hK.2.2.2 _ _ (fun c hc => by rw [hs r c hr hc]; exact nn_eq_rfl p _) (h r hr), fun h r hr => hK.2.2.2 _ _ (fun c hc => by rw [hs r c hr hc]; exact nn_eq_rfl p _) (h r hr)⟩
theorem c_solve_out (hp : nn_p p) (hN : N ≤ 5) (hn : n = N) {f1 : Nat → Int} {z1 : Int} (hR : ln_R p N (sb_R 5 f1))
    (hQ : ∀ (g : Nat → Int) (z2 : Int), sb_ok 5 N p g z2 → ds_is p N (sb_R 5 g) (ln_ker p N (sb_R 5 f1)) → Q none (w_V p n z1 z2 f1 g)) :
    ∀ (m k : Nat) (g : Nat → Int) (z2 z : Int) (d : pj_V), k + m = N → z = k → sb_ok 5 N p g z2 → (∀ K, ln_sub p N K → (ln_g N (sb_R 5 g) K ↔ ∀ f, f < k → sb_R 5 f1 f f = 0 → K (ln_vf (sb_R 5 f1) f))) → pj_WP X m_Subspace_solveInto 14 [.inr 0, .inr 2, .inl z, d] [] (w_V p n z1 z2 f1 g) Q := by
  obtain ⟨hp1, hp2, hp3⟩ := nn_p_pos hp
  intro m
  induction m with
  | zero =>
    intro k g z2 z d hk hz hok hinv
    refine wp_b rfl (by omega) (fun c => ?_) (fun c => absurd c (by omega))
    refine wp_r rfl (by omega) (hQ g z2 hok (ln_ker_is hR hok.1 (fun K hK => ?_)))
    rw [hinv K hK, show k = N by omega]
  | succ m ih =>
    intro k g z2 z d hk hz hok hinv
    have hrg := (hR k (by omega)).1 k (by omega)
    have hrg : 0 ≤ f1 (k * 5 + k) ∧ f1 (k * 5 + k) < p := hrg
    refine wp_b rfl (by omega) (fun c => absurd c (by omega)) (fun c => ?_)
    refine wp_c rfl (by omega) [0, 1] (c_hasLead (C := 5) (c0 := k) (by omega) hz (by omega) (by unfold pj_rg; omega) (fun hl => ?_) (fun hl => ?_)) rfl rfl rfl rfl
    · refine wp_b rfl (by omega) (fun c => ?_) (fun c => absurd (show ¬ (1 : Int) = 0 by omega) c)
      refine wp_g rfl (by omega) ?_
      refine ih (k + 1) g z2 _ _ (by omega) (by omega) hok (fun K hK => ?_)
      rw [hinv K hK]
      exact ⟨fun h f hf h0 => h f (by
        have : f ≠ k := fun e => hl (e ▸ h0)
        omega) h0, fun h f hf h0 => h f (by omega) h0⟩
    · refine wp_b rfl (by omega) (fun c => absurd rfl c) (fun c => ?_)
      refine wp_g rfl (by omega) ?_
      refine wp_h (w_V p n z1 z2 f1 g) rfl ?_
      refine c_solve_in hp hN hn hR hok.2.1 hz (by omega) (fun g1 d1 hg1 hv1 => ?_) N 0 g _ (by omega) (by omega) (fun _ _ _ _ => rfl) (fun c hc => by rw [hok.2.1 c hc, if_neg (by omega)])
      refine wp_c rfl (by omega) [2, 3] (c_take (C := 5) (W := N) (by omega) hp hn hN (ln_R_same hok.1 hg1) (fun c hc => by
        show 0 ≤ g1 (5 * 5 + c) ∧ g1 (5 * 5 + c) < p
        rw [hv1 c hc]
        exact ⟨Int.emod_nonneg _ (by omega), Int.emod_lt_of_pos _ hp1⟩) (fun g2 b hj hz0 => ?_)) rfl rfl rfl rfl
      refine wp_g rfl (by omega) ?_
      refine wp_h (w_V p n z1 (z2 + if b then 1 else 0) f1 g2) rfl ?_
      refine ih (k + 1) g2 _ _ _ (by omega) (by omega) ⟨hj.1, hz0, ?_⟩ (fun K hK => ?_)
      · have e9 : ln_ct (sb_R 5 g1) N = ln_ct (sb_R 5 g) N := ln_ct_congr N (fun r hr => by
          show g1 (r * 5 + r) = 0 ↔ g (r * 5 + r) = 0
          rw [hg1 r r hr hr])
        rw [hj.2.2.1, e9, hok.2.2]
        cases b <;> simp
      · rw [hj.2.1 K hK, ln_g_same hK hg1, hinv K hK]
        have e1 : ln_eq p N (sb_v 5 g1) (ln_vf (sb_R 5 f1) k) := fun c hc => by
          show nn_eq p (g1 (5 * 5 + c)) _
          rw [hv1 c hc]
          exact nn_eq_mod p _
        constructor
        · rintro ⟨a1, a2⟩ f hf h0
          by_cases h : f = k
          · subst h; exact hK.2.2.2 _ _ e1 a2
          · exact a1 f (by omega) h0
        · intro h
          exact ⟨fun f hf h0 => h f (by omega) h0, hK.2.2.2 _ _ (ln_eq_symm e1) (h k (by omega) hl)⟩
/-- solveInto(solutions) -/
theorem c_solve (hp : nn_p p) (hN : N ≤ 5) (hn : n = N) {f1 f2 : Nat → Int} {z1 : Int} (hR : ln_R p N (sb_R 5 f1))
    (hQ : ∀ (g : Nat → Int) (z2 : Int), sb_ok 5 N p g z2 → ds_is p N (sb_R 5 g) (ln_ker p N (sb_R 5 f1)) → Q none (w_V p n z1 z2 f1 g)) : pj_ci X m_Subspace_solveInto [.inr 0, .inr 2] [c_S (.inl 5) (.inr 1) (.inl p) (.inl n) (.inl z1), c_A 30 f1, c_S (.inl 5) (.inr 3) v_u v_u v_u, c_A 30 f2] Q := by
  have hp1 := (nn_p_pos hp).1
  refine wp_c rfl (by omega) [2, 3] (c_Sbegin (C := 5) (W := N) (by omega) hn hN ?_) rfl rfl rfl rfl
  obtain ⟨hz1, hz2⟩ := sb_zero (C := 5) (W := N) (f := f2) hp1 hN
  refine wp_g rfl (by omega) ?_
  refine wp_h (w_V p n z1 0 f1 (fun k => if k < (5 + 1) * 5 then 0 else f2 k)) rfl ?_
  exact c_solve_out hp hN hn hR hQ N 0 _ _ _ _ (by omega) (by omega) hz1 (fun K hK => ⟨fun _ f hf => absurd hf (by omega), fun _ r hr => hK.2.2.2 _ _ (fun c hc => by rw [hz2 r c hr hc]; exact nn_eq_rfl p 0) hK.1⟩)
/-! the center -/
def ds_cen (p : Int) (N : Nat) (T : Nat → Nat → Nat → Int) : ln_P := fun x => ∀ j k, j < N → k < N → nn_eq p (nn_sm N (fun i => T i j k * x i)) 0
/-- the kernel sees the span alone -/
theorem ln_ker_span {R : Nat → ln_V} (hR : ln_R p N R) {S : Nat → Nat → ln_V} (h : ∀ K, ln_sub p N K → (ln_g N R K ↔ ∀ j k, j < N → k < N → K (S j k))) (x : ln_V) : ln_ker p N R x ↔ ∀ j k, j < N → k < N → nn_eq p (nn_sm N (fun i => S j k i * x i)) 0 := by
  have hK : ln_sub p N (fun y => nn_eq p (nn_sm N (fun c => y c * x c)) 0) := by
    have h1 := ln_dot_sub (p := p) (N := N) x
    have e : (fun y : ln_V => nn_eq p (nn_sm N (fun c => y c * x c)) 0) = (fun y : ln_V => nn_eq p (nn_sm N (fun c => x c * y c)) 0) := by
      funext y
      rw [nn_sm_congr N (fun c _ => Int.mul_comm (y c) (x c))]
    rw [e]
    exact h1
  exact h _ hK
abbrev w_C (p n z1 z2 : Int) (br f1 f2 : Nat → Int) : List pj_C := [c_Sp (.inr 1) v_u (.inr 3) (.inr 5), c_T (.inl p) (.inl n) (.inr 2), c_A 25 br, c_S (.inl 5) (.inr 4) (.inl p) (.inl n) (.inl z1), c_A 30 f1, c_S (.inl 5) (.inr 6) v_u v_u v_u, c_A 30 f2]
theorem c_cen_in (ht : tt_ok p N T) (hb : tt_br p N T br) (hn : n = N) {z1 z2 : Int} {g0 f2 : Nat → Int} (h0 : ∀ c, c < N → g0 (5 * 5 + c) = 0) {j k : Int} {J K : Nat} (hj : j = J) (hk : k = K) (hJ : J < N) (hK : K < N)
    (hQ : ∀ (g : Nat → Int) (d : pj_V), (∀ r c, r < N → c < N → g (r * 5 + c) = g0 (r * 5 + c)) → (∀ c, c < N → g (5 * 5 + c) = T c J K) → pj_WP X m_Spaces_center 91 [.inr 0, .inl j, .inl k, d] [] (w_C p n z1 z2 br g f2) Q) :
    ∀ (m i : Nat) (g : Nat → Int) (z : Int), i + m = N → z = i → (∀ r c, r < N → c < N → g (r * 5 + c) = g0 (r * 5 + c)) → (∀ c, c < N → g (5 * 5 + c) = if c < i then T c J K else 0) → pj_WP X m_Spaces_center 49 [.inr 0, .inl j, .inl k, .inl z] [] (w_C p n z1 z2 br g f2) Q := by
  obtain ⟨hp, h1N, hN, hT, -⟩ := id ht
  obtain ⟨hp1, hp2, hp3⟩ := nn_p_pos hp
  intro m
  induction m with
  | zero =>
    intro i g z hi hz hg hgv
    refine wp_b rfl (by omega) (fun c => ?_) (fun c => absurd c (by omega))
    exact hQ g _ hg (fun c hc => by rw [hgv c hc, if_pos (by omega)])
  | succ m ih =>
    intro i g z hi hz hg hgv
    have e0 : g (5 * 5 + i) = 0 := by rw [hgv i (by omega), if_neg (by omega)]
    obtain ⟨hbr, hbd⟩ := tt_brn ht hb (i := i) (j := J) (by omega) (by omega)
    have ht9 := hT i J K
    refine wp_b rfl (by omega) (fun c => absurd c (by omega)) (fun c => ?_)
    refine wp_c rfl (by omega) [1, 2] (c_entry (I := i) (J := J) hz hj (by omega) (by omega) ?_) rfl rfl rfl rfl
    refine wp_c rfl (by omega) [1] (c_coord (K := K) hp hbr (by omega) hk ?_) rfl rfl rfl rfl
    rw [hbd K hK]
    refine wp_h (w_C p n z1 z2 br g f2) rfl ?_
    refine wp_c rfl (by omega) [3, 4] (c_addIncoming (C := 5) (W := N) (c0 := i) (by omega) hp hn hN hz (by omega) (by rw [e0]; omega) (by omega) ?_) rfl rfl rfl rfl
    refine wp_g rfl (by omega) ?_
    refine wp_h (w_C p n z1 z2 br (pj_up g (5 * 5 + i) ((g (5 * 5 + i) + T i J K) % p)) f2) rfl ?_
    refine ih (i + 1) _ _ (by omega) (by omega) (fun r c hr hc => ?_) (fun c hc => ?_)
    · unfold pj_up
      rw [if_neg (by omega)]
      exact hg r c hr hc
    · unfold pj_up
      by_cases h : c = i
      · subst h
        rw [if_pos rfl, if_pos (by omega), e0, Int.zero_add, Int.emod_eq_of_lt ht9.1 ht9.2]
      · rw [if_neg (by omega), hgv c hc]
        by_cases h2 : c < i
        · rw [if_pos h2, if_pos (by omega)]
        · rw [if_neg h2, if_neg (by omega)]
theorem c_cen_mid (ht : tt_ok p N T) (hb : tt_br p N T br) (hn : n = N) {z2 : Int} {f2 : Nat → Int} {j : Int} {J : Nat} (hj : j = J) (hJ : J < N)
    (hQ : ∀ (g : Nat → Int) (z1 : Int) (d1 d2 : pj_V), sb_ok 5 N p g z1 → (∀ K, ln_sub p N K → (ln_g N (sb_R 5 g) K ↔ ∀ j k, k < N → j < J + 1 → K (fun i => T i j k))) → pj_WP X m_Spaces_center 105 [.inr 0, .inl j, d1, d2] [] (w_C p n z1 z2 br g f2) Q) :
    ∀ (m k : Nat) (g : Nat → Int) (z1 z : Int) (d : pj_V), k + m = N → z = k → sb_ok 5 N p g z1 → (∀ K, ln_sub p N K → (ln_g N (sb_R 5 g) K ↔ ∀ j q, q < N → (j < J ∨ (j = J ∧ q < k)) → K (fun i => T i j q))) → pj_WP X m_Spaces_center 36 [.inr 0, .inl j, .inl z, d] [] (w_C p n z1 z2 br g f2) Q := by
  obtain ⟨hp, h1N, hN, hT, -⟩ := id ht
  obtain ⟨hp1, hp2, hp3⟩ := nn_p_pos hp
  intro m
  induction m with
  | zero =>
    intro k g z1 z d hk hz hok hinv
    refine wp_b rfl (by omega) (fun c => ?_) (fun c => absurd c (by omega))
    refine hQ g z1 _ _ hok (fun K hK => ?_)
    rw [hinv K hK]
    exact ⟨fun h j q hq hj2 => h j q hq (by omega), fun h j q hq hj2 => h j q hq (by omega)⟩
  | succ m ih =>
    intro k g z1 z d hk hz hok hinv
    refine wp_b rfl (by omega) (fun c => absurd c (by omega)) (fun c => ?_)
    refine wp_g rfl (by omega) ?_
    refine c_cen_in ht hb hn hok.2.1 hj hz hJ (by omega) (fun g1 d1 hg1 hv1 => ?_) N 0 g _ (by omega) (by omega) (fun _ _ _ _ => rfl) (fun c hc => by rw [hok.2.1 c hc, if_neg (by omega)])
    refine wp_c rfl (by omega) [3, 4] (c_take (C := 5) (W := N) (by omega) hp hn hN (ln_R_same hok.1 hg1) (fun c hc => by
      show 0 ≤ g1 (5 * 5 + c) ∧ g1 (5 * 5 + c) < p
      rw [hv1 c hc]
      exact hT c J k) (fun g2 b hj2 hz0 => ?_)) rfl rfl rfl rfl
    refine wp_g rfl (by omega) ?_
    refine wp_h (w_C p n (z1 + if b then 1 else 0) z2 br g2 f2) rfl ?_
    refine ih (k + 1) g2 _ _ _ (by omega) (by omega) ⟨hj2.1, hz0, ?_⟩ (fun K hK => ?_)
    · have e9 : ln_ct (sb_R 5 g1) N = ln_ct (sb_R 5 g) N := ln_ct_congr N (fun r hr => by
        show g1 (r * 5 + r) = 0 ↔ g (r * 5 + r) = 0
        rw [hg1 r r hr hr])
      rw [hj2.2.2.1, e9, hok.2.2]
      cases b <;> simp
    · rw [hj2.2.1 K hK, ln_g_same hK hg1, hinv K hK]
      have e1 : ln_eq p N (sb_v 5 g1) (fun i => T i J k) := fun c hc => by
        show nn_eq p (g1 (5 * 5 + c)) _
        rw [hv1 c hc]
        exact nn_eq_rfl p _
      constructor
      · rintro ⟨a1, a2⟩ j9 q hq h
        by_cases h2 : j9 = J ∧ q = k
        · obtain ⟨rfl, rfl⟩ := h2
          exact hK.2.2.2 _ _ e1 a2
        · exact a1 j9 q hq (by omega)
      · intro h
        exact ⟨fun j9 q hq h2 => h j9 q hq (by omega), hK.2.2.2 _ _ (ln_eq_symm e1) (h J k (by omega) (by omega))⟩
theorem c_cen_out (ht : tt_ok p N T) (hb : tt_br p N T br) (hn : n = N) {z2 : Int} {f2 : Nat → Int}
    (hQ : ∀ (g f2 : Nat → Int) (z1 z2 : Int), sb_ok 5 N p f2 z2 → ds_is p N (sb_R 5 f2) (ds_cen p N T) → Q (some (.inr 5)) [c_Sp (.inr 1) v_u (.inr 3) (.inr 5), c_T (.inl p) (.inl n) (.inr 2), c_A 25 br, c_S (.inl 5) (.inr 4) (.inl p) (.inl n) (.inl z1), c_A 30 g, c_S (.inl 5) (.inr 6) (.inl p) (.inl n) (.inl z2), c_A 30 f2]) :
    ∀ (m j : Nat) (g : Nat → Int) (z1 z : Int) (d1 d2 : pj_V), j + m = N → z = j → sb_ok 5 N p g z1 → (∀ K, ln_sub p N K → (ln_g N (sb_R 5 g) K ↔ ∀ q k, k < N → q < j → K (fun i => T i q k))) → pj_WP X m_Spaces_center 23 [.inr 0, .inl z, d1, d2] [] (w_C p n z1 z2 br g f2) Q := by
  obtain ⟨hp, h1N, hN, hT, -⟩ := id ht
  intro m
  induction m with
  | zero =>
    intro j g z1 z d1 d2 hj hz hok hinv
    refine wp_b rfl (by omega) (fun c => ?_) (fun c => absurd c (by omega))
    refine wp_c rfl (by omega) [3, 4, 5, 6] (c_solve hp hN hn hok.1 (fun g2 z2' hok2 his => ?_)) rfl rfl rfl rfl
    refine wp_r rfl (by omega) (hQ g g2 z1 z2' hok2 ⟨hok2.1, fun x => ?_⟩)
    rw [his.2 x]
    refine ln_ker_span hok.1 (S := fun j k i => T i j k) (fun K hK => ?_) x
    rw [hinv K hK]
    exact ⟨fun h q k hq hk => h q k hk (by omega), fun h q k hk hq => h q k (by omega) hk⟩
  | succ m ih =>
    intro j g z1 z d1 d2 hj hz hok hinv
    refine wp_b rfl (by omega) (fun c => absurd c (by omega)) (fun c => ?_)
    refine wp_g rfl (by omega) ?_
    refine c_cen_mid ht hb hn (z2 := z2) hz (by omega) (fun g1 z9 e1 e2 hok1 hinv1 => ?_) N 0 g z1 _ _ (by omega) (by omega) hok (fun K hK => ?_)
    · refine wp_g rfl (by omega) ?_
      exact ih (j + 1) g1 z9 _ _ _ (by omega) (by omega) hok1 (fun K hK => by rw [hinv1 K hK])
    · rw [hinv K hK]
      exact ⟨fun h q k hk hq => h q k hk (by omega), fun h q k hk hq => h q k hk (by omega)⟩
/-- center() -/
theorem c_center (ht : tt_ok p N T) (hb : tt_br p N T br) (hn : n = N) {f1 f2 : Nat → Int}
    (hQ : ∀ (g f2 : Nat → Int) (z1 z2 : Int), sb_ok 5 N p f2 z2 → ds_is p N (sb_R 5 f2) (ds_cen p N T) → Q (some (.inr 5)) [c_Sp (.inr 1) v_u (.inr 3) (.inr 5), c_T (.inl p) (.inl n) (.inr 2), c_A 25 br, c_S (.inl 5) (.inr 4) (.inl p) (.inl n) (.inl z1), c_A 30 g, c_S (.inl 5) (.inr 6) (.inl p) (.inl n) (.inl z2), c_A 30 f2]) :
    pj_ci X m_Spaces_center [.inr 0] [c_Sp (.inr 1) v_u (.inr 3) (.inr 5), c_T (.inl p) (.inl n) (.inr 2), c_A 25 br, c_S (.inl 5) (.inr 4) v_u v_u v_u, c_A 30 f1, c_S (.inl 5) (.inr 6) v_u v_u v_u, c_A 30 f2] Q := by
  obtain ⟨hp, h1N, hN, hT, -⟩ := id ht
  have hp1 := (nn_p_pos hp).1
  refine wp_c rfl (by omega) [3, 4] (c_Sbegin (C := 5) (W := N) (by omega) hn hN ?_) rfl rfl rfl rfl
  obtain ⟨hz1, hz2⟩ := sb_zero (C := 5) (W := N) (f := f1) hp1 hN
  refine wp_g rfl (by omega) ?_
  refine wp_h (w_C p n 0 0 br (fun k => if k < (5 + 1) * 5 then 0 else f1 k) f2) rfl ?_
  exact c_cen_out ht hb hn (z2 := 0) hQ N 0 _ _ _ _ _ (by omega) (by omega) hz1 (fun K hK => ⟨fun _ q k _ hq => absurd hq (by omega), fun _ r hr => hK.2.2.2 _ _ (fun c hc => by rw [hz2 r c hr hc]; exact nn_eq_rfl p 0) hK.1⟩)
end CEN
