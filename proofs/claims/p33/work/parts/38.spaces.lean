/-! Spaces: fill, close, ideal, subalgebra, bracketsWith -/
section SPC
variable {X : pj_X} {Q : pj_Q} {p n : Int} {N : Nat} {T : Nat → Nat → Nat → Int} {br : Nat → Int}
def ln_e (i : Nat) : ln_V := fun k => if k = i then 1 else 0
theorem nn_dg_pw (hp : nn_p p) : ∀ (i k : Nat), nn_dg p (p ^ i) k = ln_e i k
  | 0, 0 => by
    show p ^ 0 % p = 1
    have := (nn_p_pos hp).2.1
    rw [Int.pow_zero, Int.emod_eq_of_lt (by omega) (by omega)]
  | 0, k + 1 => by
    show nn_dg p (p ^ 0 / p) k = ln_e 0 (k + 1)
    have := (nn_p_pos hp).2.1
    rw [Int.pow_zero, Int.ediv_eq_zero_of_lt (by omega) (by omega), nn_dg_0 (by omega)]
    rfl
  | i + 1, 0 => by
    show p ^ (i + 1) % p = 0
    rw [Int.pow_succ, Int.mul_emod_left]
  | i + 1, k + 1 => by
    show nn_dg p (p ^ (i + 1) / p) k = ln_e (i + 1) (k + 1)
    have := (nn_p_pos hp).2.1
    rw [Int.pow_succ, Int.mul_ediv_cancel _ (by omega), nn_dg_pw hp i k]
    unfold ln_e
    by_cases h : k = i
    · rw [if_pos h, if_pos (by omega)]
    · rw [if_neg h, if_neg (by omega)]
/-- every vector out of the unit vectors -/
theorem ln_e_all {W : ln_P} (hW : ln_sub p N W) (h : ∀ i, i < N → W (ln_e i)) (x : ln_V) : W x := by
  refine hW.2.2.2 _ _ (fun c hc => ?_) (ln_sub_sm hW x N h)
  show nn_eq p (nn_sm N (fun r => x r * ln_e r c)) (x c)
  rw [nn_sm_one N c hc (fun r hr hne => by
    unfold ln_e
    rw [if_neg (fun z => hne z.symm), Int.mul_zero])]
  unfold ln_e
  rw [if_pos rfl, Int.mul_one]
  exact nn_eq_rfl p _
theorem ln_full_ct {R : Nat → ln_V} (hp : 1 < p) (h : ∀ x, ln_in p N R x) : (∀ r, r < N → R r r ≠ 0) ∧ ln_ct R N = N := by
  have key : ∀ r, r < N → R r r ≠ 0 := fun r hr h0 => by
    have h1 := h (ln_e r) r hr
    have h1 : nn_eq p (ln_e r r) (nn_sm N (fun q => ln_e r q * R q r)) := h1
    rw [nn_sm_one N r hr (fun q hq hne => by unfold ln_e; rw [if_neg hne, Int.zero_mul]), h0, Int.mul_zero] at h1
    unfold ln_e at h1
    rw [if_pos rfl, nn_eq_iff, Int.zero_emod, Int.emod_eq_of_lt (by omega) hp] at h1
    omega
  have ct : ∀ n, (∀ r, r < n → R r r ≠ 0) → ln_ct R n = n := by
    intro n
    induction n with
    | zero => intro _; rfl
    | succ n ih =>
      intro hk
      show ln_ct R n + _ = n + 1
      rw [ih (fun r hr => hk r (by omega)), if_neg (hk n (by omega))]
  exact ⟨key, ct N key⟩
abbrev c_Sp (t a b c : pj_V) : pj_C := .inr (4, [t, a, b, c])
theorem c_fill_in (hp : nn_p p) (hN : N ≤ 5) (hn : n = N) (hQ : ∀ f', sb_ok 5 N p f' n → (∀ x, ln_in p N (sb_R 5 f') x) → Q none [c_Sp (.inr 1) v_u v_u v_u, c_T (.inl p) (.inl n) v_u, c_S (.inl 5) (.inr 3) (.inl p) (.inl n) (.inl n), c_A 30 f']) :
    ∀ (m k : Nat) (g : Nat → Int) (z sz : Int), k + m = N → z = k → sb_ok 5 N p g sz → (∀ j, j < k → ln_in p N (sb_R 5 g) (ln_e j)) → pj_WP X m_Spaces_fill 20 [.inr 0, .inr 2, .inl z] [] [c_Sp (.inr 1) v_u v_u v_u, c_T (.inl p) (.inl n) v_u, c_S (.inl 5) (.inr 3) (.inl p) (.inl n) (.inl sz), c_A 30 g] Q := by
  obtain ⟨hp1, hp2, hp3⟩ := nn_p_pos hp
  intro m
  induction m with
  | zero =>
    intro k g z sz hk hz hok hin
    refine wp_b rfl (by omega) (fun c => ?_) (fun c => absurd c (by omega))
    refine wp_r rfl (by omega) ?_
    have hall : ∀ x, ln_in p N (sb_R 5 g) x := ln_e_all (ln_in_sub _) (fun i hi => hin i (by omega))
    have hs : sz = n := by rw [hok.2.2, (ln_full_ct (by omega) hall).2, hn]
    subst hs
    exact hQ g hok hall
  | succ m ih =>
    intro k g z sz hk hz hok hin
    have h1 := nn_pwle hp k (by omega)
    have h2 := nn_pw1 hp1 k
    refine wp_b rfl (by omega) (fun c => absurd c (by omega)) (fun c => ?_)
    refine wp_c rfl (by omega) [1] (c_power (E := k) (by omega) hz ?_) rfl rfl rfl rfl
    refine wp_c rfl (by omega) [2, 3, 1] (c_join (W := N) hp hn hN (by omega) hok (fun f2 b hj hok2 => ?_)) rfl rfl rfl rfl
    refine wp_g rfl (by omega) ?_
    refine ih (k + 1) f2 _ _ (by omega) (by omega) hok2 (fun j hj2 => ?_)
    by_cases h : j = k
    · subst h
      exact (ln_in_sub _).2.2.2 _ _ (fun c hc => by rw [nn_dg_pw hp]; exact nn_eq_rfl p _) (ln_join_in hj).1
    · exact (ln_join_in hj).2 _ (hin j (by omega))
/-- fill(space): the whole space -/
theorem c_Sfill {f : Nat → Int} (hp : nn_p p) (hN : N ≤ 5) (hn : n = N) (hQ : ∀ f', sb_ok 5 N p f' n → (∀ x, ln_in p N (sb_R 5 f') x) → Q none [c_Sp (.inr 1) v_u v_u v_u, c_T (.inl p) (.inl n) v_u, c_S (.inl 5) (.inr 3) (.inl p) (.inl n) (.inl n), c_A 30 f']) : pj_ci X m_Spaces_fill [.inr 0, .inr 2] [c_Sp (.inr 1) v_u v_u v_u, c_T (.inl p) (.inl n) v_u, c_S (.inl 5) (.inr 3) v_u v_u v_u, c_A 30 f] Q := by
  have hp1 := (nn_p_pos hp).1
  refine wp_c rfl (by omega) [2, 3] (c_Sbegin (C := 5) (W := N) (by omega) hn hN ?_) rfl rfl rfl rfl
  refine wp_g rfl (by omega) ?_
  exact c_fill_in hp hN hn hQ N 0 _ _ _ (by omega) (by omega) (sb_zero (C := 5) hp1 hN).1 (fun j hj => by omega)
/-- close(left, space): the left one apart -/
theorem c_close1_loop (ht : tt_ok p N T) (hb : tt_br p N T br) (hn : n = N) {fL fS : Nat → Int} {zL zS : Int} (hL : sb_ok 5 N p fL zL) (hS : sb_ok 5 N p fS zS)
    (hQ : ∀ (f' : Nat → Int) (z' : Int), sb_ok 5 N p f' z' → (∀ x, ln_in p N (sb_R 5 fS) x → ln_in p N (sb_R 5 f') x) → (∀ K, ln_sub p N K → ln_g N (sb_R 5 fS) K → (∀ u v, ln_in p N (sb_R 5 fL) u → K v → K (tt_bk p N T u v)) → ln_g N (sb_R 5 f') K) → (∀ u v, ln_in p N (sb_R 5 fL) u → ln_in p N (sb_R 5 f') v → ln_in p N (sb_R 5 f') (tt_bk p N T u v)) → Q none [c_Sp (.inr 1) v_u v_u v_u, c_T (.inl p) (.inl n) (.inr 2), c_A 25 br, c_S (.inl 5) (.inr 4) (.inl p) (.inl n) (.inl zL), c_A 30 fL, c_S (.inl 5) (.inr 6) (.inl p) (.inl n) (.inl z'), c_A 30 f']) :
    ∀ (m k : Nat) (g : Nat → Int) (sz gr z : Int), k + m = N + 2 → z = k → sb_ok 5 N p g sz → (∀ x, ln_in p N (sb_R 5 fS) x → ln_in p N (sb_R 5 g) x) → (∀ K, ln_sub p N K → ln_g N (sb_R 5 fS) K → (∀ u v, ln_in p N (sb_R 5 fL) u → K v → K (tt_bk p N T u v)) → ln_g N (sb_R 5 g) K) → ((gr = 1 ∧ k ≤ ln_ct (sb_R 5 g) N) ∨ (gr = 0 ∧ ∀ u v, ln_in p N (sb_R 5 fL) u → ln_in p N (sb_R 5 g) v → ln_in p N (sb_R 5 g) (tt_bk p N T u v))) → pj_WP X m_Spaces_close 5 [.inr 0, .inr 3, .inr 5, .inl gr, .inl z] [] [c_Sp (.inr 1) v_u v_u v_u, c_T (.inl p) (.inl n) (.inr 2), c_A 25 br, c_S (.inl 5) (.inr 4) (.inl p) (.inl n) (.inl zL), c_A 30 fL, c_S (.inl 5) (.inr 6) (.inl p) (.inl n) (.inl sz), c_A 30 g] Q := by
  obtain ⟨hp, h1N, hN, hT, -⟩ := id ht
  intro m
  induction m with
  | zero =>
    intro k g sz gr z hk hz hok h1 h2 h3
    have hw := ln_ct_w (sb_R 5 g) N
    rcases h3 with h3 | h3
    · omega
    · refine wp_b rfl (by omega) (fun c => ?_) (fun c => absurd c (by omega))
      exact wp_r rfl (by omega) (hQ g sz hok h1 h2 h3.2)
  | succ m ih =>
    intro k g sz gr z hk hz hok h1 h2 h3
    have hw := ln_ct_w (sb_R 5 g) N
    rcases h3 with ⟨e3, h3⟩ | ⟨e3, h3⟩
    · subst e3
      refine wp_b rfl (by omega) (fun c => absurd c (by omega)) (fun c => ?_)
      refine wp_b rfl (by omega) (fun c => absurd c (show ¬ (1 : Int) = 0 by omega)) (fun c => ?_)
      refine wp_c rfl (by omega) [0, 1, 2, 3, 4, 5, 6] (c_addProducts_B1 ht hb hn hL hok (fun f2 z2 g2 hok2 a1 a2 a3 => ?_)) rfl rfl rfl rfl
      refine wp_g rfl (by omega) ?_
      refine ih (k + 1) f2 z2 g2 _ (by omega) (by omega) hok2 (fun x hx => a1 x (h1 x hx)) (fun K hK hg hc => a2 K hK (h2 K hK hg hc) hc) ?_
      rcases a3 with ⟨e4, hs, hcl⟩ | ⟨e4, hct⟩
      · refine Or.inr ⟨e4, fun u v hu hv => ?_⟩
        exact (ln_in_congr hs).mpr (hcl u v hu ((ln_in_congr hs).mp hv))
      · exact Or.inl ⟨e4, by omega⟩
    · subst e3
      refine wp_b rfl (by omega) (fun c => ?_) (fun c => ?_)
      · exact wp_r rfl (by omega) (hQ g sz hok h1 h2 h3)
      · refine wp_b rfl (by omega) (fun c => ?_) (fun c => absurd rfl c)
        exact wp_r rfl (by omega) (hQ g sz hok h1 h2 h3)
theorem c_close1 (ht : tt_ok p N T) (hb : tt_br p N T br) (hn : n = N) {fL fS : Nat → Int} {zL zS : Int} (hL : sb_ok 5 N p fL zL) (hS : sb_ok 5 N p fS zS)
    (hQ : ∀ (f' : Nat → Int) (z' : Int), sb_ok 5 N p f' z' → (∀ x, ln_in p N (sb_R 5 fS) x → ln_in p N (sb_R 5 f') x) → (∀ K, ln_sub p N K → ln_g N (sb_R 5 fS) K → (∀ u v, ln_in p N (sb_R 5 fL) u → K v → K (tt_bk p N T u v)) → ln_g N (sb_R 5 f') K) → (∀ u v, ln_in p N (sb_R 5 fL) u → ln_in p N (sb_R 5 f') v → ln_in p N (sb_R 5 f') (tt_bk p N T u v)) → Q none [c_Sp (.inr 1) v_u v_u v_u, c_T (.inl p) (.inl n) (.inr 2), c_A 25 br, c_S (.inl 5) (.inr 4) (.inl p) (.inl n) (.inl zL), c_A 30 fL, c_S (.inl 5) (.inr 6) (.inl p) (.inl n) (.inl z'), c_A 30 f']) :
    pj_ci X m_Spaces_close [.inr 0, .inr 3, .inr 5] [c_Sp (.inr 1) v_u v_u v_u, c_T (.inl p) (.inl n) (.inr 2), c_A 25 br, c_S (.inl 5) (.inr 4) (.inl p) (.inl n) (.inl zL), c_A 30 fL, c_S (.inl 5) (.inr 6) (.inl p) (.inl n) (.inl zS), c_A 30 fS] Q := by
  refine wp_g rfl (by omega) ?_
  exact c_close1_loop ht hb hn hL hS hQ (N + 2) 0 fS zS _ _ (by omega) (by omega) hS (fun x hx => hx) (fun K _ hg _ => hg) (Or.inl ⟨rfl, Nat.zero_le _⟩)
theorem c_close2_loop (ht : tt_ok p N T) (hb : tt_br p N T br) (hn : n = N) {fS : Nat → Int} {zS : Int} (hS : sb_ok 5 N p fS zS)
    (hQ : ∀ (f' : Nat → Int) (z' : Int), sb_ok 5 N p f' z' → (∀ x, ln_in p N (sb_R 5 fS) x → ln_in p N (sb_R 5 f') x) → (∀ K, ln_sub p N K → ln_g N (sb_R 5 fS) K → (∀ u v, K u → K v → K (tt_bk p N T u v)) → ln_g N (sb_R 5 f') K) → (∀ u v, ln_in p N (sb_R 5 f') u → ln_in p N (sb_R 5 f') v → ln_in p N (sb_R 5 f') (tt_bk p N T u v)) → Q none [c_Sp (.inr 1) v_u v_u v_u, c_T (.inl p) (.inl n) (.inr 2), c_A 25 br, c_S (.inl 5) (.inr 4) (.inl p) (.inl n) (.inl z'), c_A 30 f']) :
    ∀ (m k : Nat) (g : Nat → Int) (sz gr z : Int), k + m = N + 2 → z = k → sb_ok 5 N p g sz → (∀ x, ln_in p N (sb_R 5 fS) x → ln_in p N (sb_R 5 g) x) → (∀ K, ln_sub p N K → ln_g N (sb_R 5 fS) K → (∀ u v, K u → K v → K (tt_bk p N T u v)) → ln_g N (sb_R 5 g) K) → ((gr = 1 ∧ k ≤ ln_ct (sb_R 5 g) N) ∨ (gr = 0 ∧ ∀ u v, ln_in p N (sb_R 5 g) u → ln_in p N (sb_R 5 g) v → ln_in p N (sb_R 5 g) (tt_bk p N T u v))) → pj_WP X m_Spaces_close 5 [.inr 0, .inr 3, .inr 3, .inl gr, .inl z] [] [c_Sp (.inr 1) v_u v_u v_u, c_T (.inl p) (.inl n) (.inr 2), c_A 25 br, c_S (.inl 5) (.inr 4) (.inl p) (.inl n) (.inl sz), c_A 30 g] Q := by
  obtain ⟨hp, h1N, hN, hT, -⟩ := id ht
  intro m
  induction m with
  | zero =>
    intro k g sz gr z hk hz hok h1 h2 h3
    have hw := ln_ct_w (sb_R 5 g) N
    rcases h3 with h3 | h3
    · omega
    · refine wp_b rfl (by omega) (fun c => ?_) (fun c => absurd c (by omega))
      exact wp_r rfl (by omega) (hQ g sz hok h1 h2 h3.2)
  | succ m ih =>
    intro k g sz gr z hk hz hok h1 h2 h3
    have hw := ln_ct_w (sb_R 5 g) N
    rcases h3 with ⟨e3, h3⟩ | ⟨e3, h3⟩
    · subst e3
      refine wp_b rfl (by omega) (fun c => absurd c (by omega)) (fun c => ?_)
      refine wp_b rfl (by omega) (fun c => absurd c (show ¬ (1 : Int) = 0 by omega)) (fun c => ?_)
      refine wp_c rfl (by omega) [0, 1, 2, 3, 4] (c_addProducts_B2 ht hb hn hok (fun f2 z2 g2 hok2 a1 a2 a3 => ?_)) rfl rfl rfl rfl
      refine wp_g rfl (by omega) ?_
      refine ih (k + 1) f2 z2 g2 _ (by omega) (by omega) hok2 (fun x hx => a1 x (h1 x hx)) (fun K hK hg hc => a2 K hK (h2 K hK hg hc) hc) ?_
      rcases a3 with ⟨e4, hs, hcl⟩ | ⟨e4, hct⟩
      · refine Or.inr ⟨e4, fun u v hu hv => ?_⟩
        exact (ln_in_congr hs).mpr (hcl u v ((ln_in_congr hs).mp hu) ((ln_in_congr hs).mp hv))
      · exact Or.inl ⟨e4, by omega⟩
    · subst e3
      refine wp_b rfl (by omega) (fun c => ?_) (fun c => ?_)
      · exact wp_r rfl (by omega) (hQ g sz hok h1 h2 h3)
      · refine wp_b rfl (by omega) (fun c => ?_) (fun c => absurd rfl c)
        exact wp_r rfl (by omega) (hQ g sz hok h1 h2 h3)
theorem c_close2 (ht : tt_ok p N T) (hb : tt_br p N T br) (hn : n = N) {fS : Nat → Int} {zS : Int} (hS : sb_ok 5 N p fS zS)
    (hQ : ∀ (f' : Nat → Int) (z' : Int), sb_ok 5 N p f' z' → (∀ x, ln_in p N (sb_R 5 fS) x → ln_in p N (sb_R 5 f') x) → (∀ K, ln_sub p N K → ln_g N (sb_R 5 fS) K → (∀ u v, K u → K v → K (tt_bk p N T u v)) → ln_g N (sb_R 5 f') K) → (∀ u v, ln_in p N (sb_R 5 f') u → ln_in p N (sb_R 5 f') v → ln_in p N (sb_R 5 f') (tt_bk p N T u v)) → Q none [c_Sp (.inr 1) v_u v_u v_u, c_T (.inl p) (.inl n) (.inr 2), c_A 25 br, c_S (.inl 5) (.inr 4) (.inl p) (.inl n) (.inl z'), c_A 30 f']) :
    pj_ci X m_Spaces_close [.inr 0, .inr 3, .inr 3] [c_Sp (.inr 1) v_u v_u v_u, c_T (.inl p) (.inl n) (.inr 2), c_A 25 br, c_S (.inl 5) (.inr 4) (.inl p) (.inl n) (.inl zS), c_A 30 fS] Q := by
  refine wp_g rfl (by omega) ?_
  exact c_close2_loop ht hb hn hS hQ (N + 2) 0 fS zS _ _ (by omega) (by omega) hS (fun x hx => hx) (fun K _ hg _ => hg) (Or.inl ⟨rfl, Nat.zero_le _⟩)
end SPC
