/-! THE MODEL: adjoint matrices, products, nilpotency, the Killing form -/
abbrev o_j : pj_C := .inr (8, [v_u, .inr 1, v_u, v_u, v_u, v_u, v_u, v_u, .inr 2, v_u, v_u, v_u, v_u, v_u, v_u, v_u, v_u, v_u, v_u, v_u, v_u, v_u, v_u, v_u, v_u, v_u, v_u, v_u])
abbrev o_j0 : pj_C := .inr (8, [.inl 0, .inr 1, v_u, v_u, v_u, v_u, v_u, v_u, .inr 2, v_u, v_u, v_u, v_u, v_u, v_u, v_u, v_u, v_u, v_u, v_u, .inr 3, v_u, v_u, v_u, v_u, v_u, v_u, v_u])
abbrev o_p : pj_C := .inr (8, [v_u, .inr 1, v_u, v_u, v_u, v_u, v_u, v_u, v_u, v_u, v_u, v_u, v_u, v_u, v_u, v_u, v_u, v_u, v_u, v_u, v_u, v_u, .inr 2, v_u, v_u, v_u, v_u, v_u])
abbrev o_n0 : pj_C := .inr (8, [.inl 0, .inr 1, v_u, v_u, v_u, v_u, v_u, v_u, .inr 2, v_u, v_u, v_u, v_u, v_u, v_u, v_u, v_u, v_u, v_u, v_u, .inr 3, .inr 4, .inr 5, v_u, v_u, v_u, v_u, v_u])
abbrev o_k : pj_C := .inr (8, [v_u, .inr 1, v_u, v_u, v_u, v_u, v_u, v_u, .inr 2, v_u, v_u, v_u, v_u, v_u, v_u, v_u, v_u, v_u, v_u, v_u, .inr 3, .inr 4, .inr 5, v_u, v_u, v_u, v_u, v_u])
abbrev o_r0 : pj_C := .inr (8, [.inl 0, .inr 1, v_u, v_u, v_u, v_u, v_u, v_u, .inr 2, v_u, .inr 7, v_u, v_u, v_u, v_u, v_u, v_u, .inr 6, v_u, .inr 8, .inr 3, .inr 4, .inr 5, v_u, v_u, v_u, v_u, v_u])
abbrev w_j (s on f : Nat → Int) : List pj_C := [o_j, c_A 127 s, c_A 5 on, c_A 25 f]
abbrev w_j0 (s on f : Nat → Int) : List pj_C := [o_j0, c_A 127 s, c_A 5 on, c_A 25 f]
abbrev w_p (s pr l r : Nat → Int) : List pj_C := [o_p, c_A 127 s, c_A 25 pr, c_A 25 l, c_A 25 r]
abbrev w_n0 (s on ma se pr : Nat → Int) : List pj_C := [o_n0, c_A 127 s, c_A 5 on, c_A 25 ma, c_A 25 se, c_A 25 pr]
abbrev w_k (s on ma se pr : Nat → Int) : List pj_C := [o_k, c_A 127 s, c_A 5 on, c_A 25 ma, c_A 25 se, c_A 25 pr]
abbrev w_r0 (s on ma se pr h r eq : Nat → Int) : List pj_C := [o_r0, c_A 127 s, c_A 5 on, c_A 25 ma, c_A 25 se, c_A 25 pr, c_A 5 h, c_A 5 r, c_A 26 eq]
section ADJ
variable {X : pj_X} {Q : pj_Q} {p : Int} {N : Nat} {T : Nat → Nat → Nat → Int} {s : Nat → Int}
/-- an entry of ad V -/
theorem ad_eq (V : ln_V) {c : Nat} (hc : c < N) (r : Nat) : tt_bk p N T V (ln_e c) r = nn_sm N (fun i => V i * T i c r) % p := by
  unfold tt_bk
  refine congrArg (· % p) (nn_sm_congr N (fun i _ => ?_))
  rw [nn_sm_one N c hc (fun j _ hne => by rw [show ln_e c j = 0 from if_neg hne, Int.mul_zero, Int.zero_mul]), show ln_e c c = 1 from if_pos rfl, Int.mul_one]
/-- ad V on a vector, by its matrix -/
theorem ad_lin (V x : ln_V) (r : Nat) : nn_sm N (fun k => tt_bk p N T V (ln_e k) r * x k) % p = tt_bk p N T V x r := by
  refine nn_eq_iff.mp (nn_eq_trans (nn_eq_sm N (fun k hk => nn_eq_mul (by rw [ad_eq V hk r]; exact nn_eq_mod p _) (nn_eq_rfl p (x k)))) ?_)
  have e : nn_sm N (fun k => nn_sm N (fun i => V i * T i k r) * x k) = nn_sm N (fun i => nn_sm N (fun j => V i * x j * T i j r)) := by
    rw [nn_sm_comm N N (fun i j => V i * x j * T i j r)]
    refine nn_sm_congr N (fun k _ => ?_)
    rw [Int.mul_comm, ← nn_sm_mul]
    refine nn_sm_congr N (fun i _ => ?_)
    rw [← Int.mul_assoc, Int.mul_comm (x k) (V i)]
  rw [e]
  exact nn_eq_rfl p _
theorem d_ad_in (hN : N ≤ 5) (hs : st_m p N T s) {R C : Nat} {v r c : Int} {on f : Nat → Int} (hr : r = R) (hR : R < N) (hc : c = C) (hC : C < N)
    (hQ : ∀ d : pj_V, pj_WP X m_Mo_makeAdjoint 85 [.inr 0, .inl v, .inr 3, .inl r, .inl c, .inl (nn_sm N (fun i => on i * T i C R)), d] [] (w_j s on f) Q) :
    ∀ (m I : Nat) (x i : Int), I + m = N → i = I → x = nn_sm I (fun i => on i * T i C R) → pj_WP X m_Mo_makeAdjoint 41 [.inr 0, .inl v, .inr 3, .inl r, .inl c, .inl x, .inl i] [] (w_j s on f) Q := by
  obtain ⟨h0, h1, h2⟩ := id hs
  have h1' : s (Int.toNat 1) = (N : Int) := h1
  intro m
  induction m with
  | zero =>
    intro I x i hI hi hx
    refine wp_b rfl (by omega) (fun c => ?_) (fun c => absurd c (by omega))
    rw [hx, show I = N by omega]
    exact hQ _
  | succ m ih =>
    intro I x i hI hi hx
    refine wp_b rfl (by omega) (fun c9 => absurd c9 (by omega)) (fun c9 => ?_)
    refine wp_c rfl (by omega) [] (d_at ?_) rfl rfl rfl rfl
    refine wp_h (w_j s on f) rfl ?_
    refine wp_g rfl (by omega) ?_
    refine ih (I + 1) _ _ (by omega) (by omega) ?_
    have e1 : i.toNat = I := by omega
    have e3 : (2 + 5 * (5 * i + c) + r).toNat = 2 + 5 * (5 * I + C) + R := by omega
    rw [e1, e3, h2 I C R (by omega) (by omega) (by omega), hx]
    rfl
theorem d_ad_mid (ht : tt_ok p N T) (hs : st_m p N T s) {V : ln_V} {R : Nat} {v r : Int} {on : Nat → Int} (hr : r = R) (hR : R < N) (hon : ∀ i, i < N → on i = V i) (hV : ∀ i, i < N → 0 ≤ V i ∧ V i < p)
    (hQ : ∀ (f : Nat → Int) (d1 d2 d3 : pj_V), (∀ a b, a < N → b < N → a < R + 1 → f (5 * a + b) = tt_bk p N T V (ln_e b) a) → pj_WP X m_Mo_makeAdjoint 105 [.inr 0, .inl v, .inr 3, .inl r, d1, d2, d3] [] (w_j s on f) Q) :
    ∀ (m C : Nat) (f : Nat → Int) (c : Int) (d2 d3 : pj_V), C + m = N → c = C → (∀ a b, a < N → b < N → (a < R ∨ (a = R ∧ b < C)) → f (5 * a + b) = tt_bk p N T V (ln_e b) a) → pj_WP X m_Mo_makeAdjoint 24 [.inr 0, .inl v, .inr 3, .inl r, .inl c, d2, d3] [] (w_j s on f) Q := by
  obtain ⟨hp, h1N, hN, hT, -⟩ := id ht
  obtain ⟨h0, h1, h2⟩ := id hs
  have h1' : s (Int.toNat 1) = (N : Int) := h1
  intro m
  induction m with
  | zero =>
    intro C f c d2 d3 hC hc hf
    refine wp_b rfl (by omega) (fun c => ?_) (fun c => absurd c (by omega))
    exact hQ f _ _ _ (fun a b ha hb hab => hf a b ha hb (by omega))
  | succ m ih =>
    intro C f c d2 d3 hC hc hf
    have hs1 : nn_sm N (fun i => on i * T i C R) = nn_sm N (fun i => V i * T i C R) := nn_sm_congr N (fun i hi => by rw [hon i hi])
    have hrg := nn_sm_rg (B := 36) N (f := fun i => V i * T i C R) (fun i hi => nn_f7 hp (hV i hi) (hT i C R))
    refine wp_b rfl (by omega) (fun c => absurd c (by omega)) (fun c9 => ?_)
    refine wp_g rfl (by omega) ?_
    refine d_ad_in hN hs hr hR hc (by omega) (fun d => ?_) N 0 _ _ (by omega) (by omega) rfl
    rw [hs1]
    refine wp_c rfl (by omega) [0, 1] (d_mod hp h0 (by unfold pj_rg; omega) ?_) rfl rfl rfl rfl
    refine wp_h (w_j s on f) rfl ?_
    refine wp_g rfl (by omega) ?_
    refine ih (C + 1) _ _ _ _ (by omega) (by omega) (fun a b ha hb hab => ?_)
    unfold pj_up
    rw [show (5 * r + c).toNat = 5 * R + C by omega]
    by_cases e : 5 * a + b = 5 * R + C
    · have ea : a = R := by omega
      have eb : b = C := by omega
      subst ea eb
      rw [if_pos rfl, ad_eq V hb a]
    · rw [if_neg e]
      exact hf a b ha hb (by omega)
theorem d_ad_out (ht : tt_ok p N T) (hs : st_m p N T s) {V : ln_V} {v : Int} {on : Nat → Int} (hon : ∀ i, i < N → on i = V i) (hV : ∀ i, i < N → 0 ≤ V i ∧ V i < p)
    (hQ : ∀ f : Nat → Int, (∀ a b, a < N → b < N → f (5 * a + b) = tt_bk p N T V (ln_e b) a) → Q none (w_j s on f)) :
    ∀ (m R : Nat) (f : Nat → Int) (r : Int) (d1 d2 d3 : pj_V), R + m = N → r = R → (∀ a b, a < N → b < N → a < R → f (5 * a + b) = tt_bk p N T V (ln_e b) a) → pj_WP X m_Mo_makeAdjoint 11 [.inr 0, .inl v, .inr 3, .inl r, d1, d2, d3] [] (w_j s on f) Q := by
  obtain ⟨hp, h1N, hN, hT, -⟩ := id ht
  obtain ⟨h0, h1, h2⟩ := id hs
  have h1' : s (Int.toNat 1) = (N : Int) := h1
  intro m
  induction m with
  | zero =>
    intro R f r d1 d2 d3 hR hr hf
    refine wp_b rfl (by omega) (fun c => ?_) (fun c => absurd c (by omega))
    exact wp_r rfl (by omega) (hQ f (fun a b ha hb => hf a b ha hb (by omega)))
  | succ m ih =>
    intro R f r d1 d2 d3 hR hr hf
    refine wp_b rfl (by omega) (fun c => absurd c (by omega)) (fun c => ?_)
    refine wp_g rfl (by omega) ?_
    refine d_ad_mid ht hs hr (by omega) hon hV (fun f2 e1 e2 e3 hf2 => ?_) N 0 _ _ _ _ (by omega) (by omega) (fun a b ha hb hab => hf a b ha hb (by omega))
    refine wp_g rfl (by omega) ?_
    exact ih (R + 1) _ _ _ _ _ (by omega) (by omega) hf2
/-- f is the matrix of ad V -/
def ad_is (p : Int) (N : Nat) (T : Nat → Nat → Nat → Int) (V : ln_V) (f : Nat → Int) : Prop := ∀ a b, a < N → b < N → f (5 * a + b) = tt_bk p N T V (ln_e b) a
/-- makeAdjoint(v, into) -/
theorem d_makeAdjoint (ht : tt_ok p N T) (hs : st_m p N T s) {v : Int} (hv : 0 ≤ v ∧ v ≤ 2147483647) {on f : Nat → Int}
    (hQ : ∀ on f : Nat → Int, ad_is p N T (nn_dg p v) f → Q none (w_j s on f)) : pj_ci X m_Mo_makeAdjoint [.inr 0, .inl v, .inr 3] (w_j s on f) Q := by
  obtain ⟨hp, h1N, hN, hT, -⟩ := id ht
  obtain ⟨h0, h1, h2⟩ := id hs
  refine wp_c rfl (by omega) [0, 1, 2] (d_read hp hN h0 h1 hv ?_) rfl rfl rfl rfl
  refine wp_h (w_j s (rd_f p N v on) f) rfl ?_
  refine wp_g rfl (by omega) ?_
  exact d_ad_out ht hs (V := nn_dg p v) (fun i hi => rd_f_eq hN hi) (fun i _ => nn_dg_rg (nn_p_pos hp).1 i v) (fun f hf => hQ _ f hf) N 0 _ _ _ _ _ (by omega) (by omega) (fun a b ha hb hab => by omega)
theorem d_pr_in (hN : N ≤ 5) (h1 : s 1 = (N : Int)) {R C : Nat} {r c : Int} {pr l g : Nat → Int} (hr : r = R) (hR : R < N) (hc : c = C) (hC : C < N)
    (hQ : ∀ d : pj_V, pj_WP X m_Mo_makeProduct 72 [.inr 0, .inr 3, .inr 4, .inl r, .inl c, .inl (nn_sm N (fun k => l (5 * R + k) * g (5 * k + C))), d] [] (w_p s pr l g) Q) :
    ∀ (m K : Nat) (x k : Int), K + m = N → k = K → x = nn_sm K (fun k => l (5 * R + k) * g (5 * k + C)) → pj_WP X m_Mo_makeProduct 32 [.inr 0, .inr 3, .inr 4, .inl r, .inl c, .inl x, .inl k] [] (w_p s pr l g) Q := by
  have h1' : s (Int.toNat 1) = (N : Int) := h1
  intro m
  induction m with
  | zero =>
    intro K x k hK hk hx
    refine wp_b rfl (by omega) (fun c => ?_) (fun c => absurd c (by omega))
    rw [hx, show K = N by omega]
    exact hQ _
  | succ m ih =>
    intro K x k hK hk hx
    refine wp_b rfl (by omega) (fun c9 => absurd c9 (by omega)) (fun c9 => ?_)
    refine wp_g rfl (by omega) ?_
    refine ih (K + 1) _ _ (by omega) (by omega) ?_
    have e1 : (5 * r + k).toNat = 5 * R + K := by omega
    have e3 : (5 * k + c).toNat = 5 * K + C := by omega
    rw [e1, e3, hx]
    rfl
theorem d_pr_mid (hp : nn_p p) (hN : N ≤ 5) (h0 : s 0 = p) (h1 : s 1 = (N : Int)) {R : Nat} {r : Int} {l g : Nat → Int} (hr : r = R) (hR : R < N) (hl : ∀ a b, a < N → b < N → 0 ≤ l (5 * a + b) ∧ l (5 * a + b) < p) (hg : ∀ a b, a < N → b < N → 0 ≤ g (5 * a + b) ∧ g (5 * a + b) < p)
    (hQ : ∀ (f : Nat → Int) (d1 d2 d3 : pj_V), (∀ a b, a < N → b < N → a < R + 1 → f (5 * a + b) = nn_sm N (fun k => l (5 * a + k) * g (5 * k + b)) % p) → pj_WP X m_Mo_makeProduct 95 [.inr 0, .inr 3, .inr 4, .inl r, d1, d2, d3] [] (w_p s f l g) Q) :
    ∀ (m C : Nat) (f : Nat → Int) (c : Int) (d2 d3 : pj_V), C + m = N → c = C → (∀ a b, a < N → b < N → (a < R ∨ (a = R ∧ b < C)) → f (5 * a + b) = nn_sm N (fun k => l (5 * a + k) * g (5 * k + b)) % p) → pj_WP X m_Mo_makeProduct 15 [.inr 0, .inr 3, .inr 4, .inl r, .inl c, d2, d3] [] (w_p s f l g) Q := by
  have h1' : s (Int.toNat 1) = (N : Int) := h1
  intro m
  induction m with
  | zero =>
    intro C f c d2 d3 hC hc hf
    refine wp_b rfl (by omega) (fun c => ?_) (fun c => absurd c (by omega))
    exact hQ f _ _ _ (fun a b ha hb hab => hf a b ha hb (by omega))
  | succ m ih =>
    intro C f c d2 d3 hC hc hf
    have hrg := nn_sm_rg (B := 36) N (f := fun k => l (5 * R + k) * g (5 * k + C)) (fun k hk => nn_f7 hp (hl R k hR hk) (hg k C hk (by omega)))
    refine wp_b rfl (by omega) (fun c => absurd c (by omega)) (fun c9 => ?_)
    refine wp_g rfl (by omega) ?_
    refine d_pr_in hN h1 hr hR hc (by omega) (fun d => ?_) N 0 _ _ (by omega) (by omega) rfl
    refine wp_c rfl (by omega) [0, 1] (d_mod hp h0 (by unfold pj_rg; omega) ?_) rfl rfl rfl rfl
    refine wp_h (w_p s f l g) rfl ?_
    refine wp_g rfl (by omega) ?_
    refine ih (C + 1) _ _ _ _ (by omega) (by omega) (fun a b ha hb hab => ?_)
    unfold pj_up
    rw [show (5 * r + c).toNat = 5 * R + C by omega]
    by_cases e : 5 * a + b = 5 * R + C
    · have ea : a = R := by omega
      have eb : b = C := by omega
      subst ea eb
      rw [if_pos rfl]
    · rw [if_neg e]
      exact hf a b ha hb (by omega)
theorem d_pr_out (hp : nn_p p) (hN : N ≤ 5) (h0 : s 0 = p) (h1 : s 1 = (N : Int)) {l g : Nat → Int} (hl : ∀ a b, a < N → b < N → 0 ≤ l (5 * a + b) ∧ l (5 * a + b) < p) (hg : ∀ a b, a < N → b < N → 0 ≤ g (5 * a + b) ∧ g (5 * a + b) < p)
    (hQ : ∀ f : Nat → Int, (∀ a b, a < N → b < N → f (5 * a + b) = nn_sm N (fun k => l (5 * a + k) * g (5 * k + b)) % p) → Q none (w_p s f l g)) :
    ∀ (m R : Nat) (f : Nat → Int) (r : Int) (d1 d2 d3 : pj_V), R + m = N → r = R → (∀ a b, a < N → b < N → a < R → f (5 * a + b) = nn_sm N (fun k => l (5 * a + k) * g (5 * k + b)) % p) → pj_WP X m_Mo_makeProduct 2 [.inr 0, .inr 3, .inr 4, .inl r, d1, d2, d3] [] (w_p s f l g) Q := by
  have h1' : s (Int.toNat 1) = (N : Int) := h1
  intro m
  induction m with
  | zero =>
    intro R f r d1 d2 d3 hR hr hf
    refine wp_b rfl (by omega) (fun c => ?_) (fun c => absurd c (by omega))
    exact wp_r rfl (by omega) (hQ f (fun a b ha hb => hf a b ha hb (by omega)))
  | succ m ih =>
    intro R f r d1 d2 d3 hR hr hf
    refine wp_b rfl (by omega) (fun c => absurd c (by omega)) (fun c => ?_)
    refine wp_g rfl (by omega) ?_
    refine d_pr_mid hp hN h0 h1 hr (by omega) hl hg (fun f2 e1 e2 e3 hf2 => ?_) N 0 _ _ _ _ (by omega) (by omega) (fun a b ha hb hab => hf a b ha hb (by omega))
    refine wp_g rfl (by omega) ?_
    exact ih (R + 1) _ _ _ _ _ (by omega) (by omega) hf2
/-- makeProduct(left, right) -/
theorem d_makeProduct (hp : nn_p p) (hN : N ≤ 5) (h0 : s 0 = p) (h1 : s 1 = (N : Int)) {pr l g : Nat → Int} (hl : ∀ a b, a < N → b < N → 0 ≤ l (5 * a + b) ∧ l (5 * a + b) < p) (hg : ∀ a b, a < N → b < N → 0 ≤ g (5 * a + b) ∧ g (5 * a + b) < p)
    (hQ : ∀ f : Nat → Int, (∀ a b, a < N → b < N → f (5 * a + b) = nn_sm N (fun k => l (5 * a + k) * g (5 * k + b)) % p) → Q none (w_p s f l g)) : pj_ci X m_Mo_makeProduct [.inr 0, .inr 3, .inr 4] (w_p s pr l g) Q := by
  refine wp_g rfl (by omega) ?_
  exact d_pr_out hp hN h0 h1 hl hg hQ N 0 _ _ _ _ _ (by omega) (by omega) (fun a b ha hb hab => by omega)
theorem d_iz_in (hN : N ≤ 5) (h1 : s 1 = (N : Int)) {R : Nat} {r : Int} {g : Nat → Int} (hr : r = R) (hR : R < N) (hg : ∀ a b, a < N → b < N → pj_rg (g (5 * a + b)))
    (hQ : ∀ (fl : Int) (d : pj_V), (fl = 1 ∧ (∀ a b, a < N → b < N → a < R + 1 → g (5 * a + b) = 0)) ∨ (fl = 0 ∧ ∃ a b, a < N ∧ b < N ∧ g (5 * a + b) ≠ 0) → pj_WP X m_Mo_isZero 55 [.inr 0, .inr 2, .inl fl, .inl r, d] [] [o_s, c_A 127 s, c_A 25 g] Q) :
    ∀ (m C : Nat) (fl c : Int), C + m = N → c = C → ((fl = 1 ∧ (∀ a b, a < N → b < N → (a < R ∨ (a = R ∧ b < C)) → g (5 * a + b) = 0)) ∨ (fl = 0 ∧ ∃ a b, a < N ∧ b < N ∧ g (5 * a + b) ≠ 0)) → pj_WP X m_Mo_isZero 17 [.inr 0, .inr 2, .inl fl, .inl r, .inl c] [] [o_s, c_A 127 s, c_A 25 g] Q := by
  have h1' : s (Int.toNat 1) = (N : Int) := h1
  intro m
  induction m with
  | zero =>
    intro C fl c hC hc hfl
    refine wp_b rfl (by omega) (fun c => ?_) (fun c => absurd c (by omega))
    exact hQ fl _ (hfl.imp (fun z => ⟨z.1, fun a b ha hb hab => z.2 a b ha hb (by omega)⟩) id)
  | succ m ih =>
    intro C fl c hC hc hfl
    have hrg := hg R C hR (by omega)
    obtain ⟨hg1, hg2⟩ := hrg
    have e1 : (5 * r + c).toNat = 5 * R + C := by omega
    refine wp_b rfl (by omega) (fun c => absurd c (by omega)) (fun c9 => ?_)
    rcases hfl with ⟨e, hz⟩ | ⟨e, hnz⟩
    · refine wp_b rfl (by omega) (fun c => absurd c (by omega)) (fun c2 => ?_)
      refine wp_b rfl (by rw [e1]; omega) (fun c3 => ?_) (fun c3 => ?_)
      · rw [e1] at c3
        refine wp_g rfl (by omega) ?_
        exact ih (C + 1) _ _ (by omega) (by omega) (Or.inr ⟨rfl, R, C, hR, by omega, c3⟩)
      · rw [e1] at c3
        refine wp_g rfl (by omega) ?_
        refine ih (C + 1) _ _ (by omega) (by omega) (Or.inl ⟨rfl, fun a b ha hb hab => ?_⟩)
        by_cases e9 : a = R ∧ b = C
        · rw [e9.1, e9.2]
          exact Decidable.of_not_not c3
        · exact hz a b ha hb (by omega)
    · refine wp_b rfl (by omega) (fun c => ?_) (fun c => absurd e c)
      refine wp_g rfl (by omega) ?_
      exact ih (C + 1) _ _ (by omega) (by omega) (Or.inr ⟨rfl, hnz⟩)
theorem d_iz_out (hN : N ≤ 5) (h1 : s 1 = (N : Int)) {g : Nat → Int} (hg : ∀ a b, a < N → b < N → pj_rg (g (5 * a + b)))
    (ht : (∀ a b, a < N → b < N → g (5 * a + b) = 0) → Q (some (.inl 1)) [o_s, c_A 127 s, c_A 25 g]) (hf : (∃ a b, a < N ∧ b < N ∧ g (5 * a + b) ≠ 0) → Q (some (.inl 0)) [o_s, c_A 127 s, c_A 25 g]) :
    ∀ (m R : Nat) (fl r : Int) (d : pj_V), R + m = N → r = R → ((fl = 1 ∧ (∀ a b, a < N → b < N → a < R → g (5 * a + b) = 0)) ∨ (fl = 0 ∧ ∃ a b, a < N ∧ b < N ∧ g (5 * a + b) ≠ 0)) → pj_WP X m_Mo_isZero 4 [.inr 0, .inr 2, .inl fl, .inl r, d] [] [o_s, c_A 127 s, c_A 25 g] Q := by
  have h1' : s (Int.toNat 1) = (N : Int) := h1
  intro m
  induction m with
  | zero =>
    intro R fl r d hR hr hfl
    refine wp_b rfl (by omega) (fun c => ?_) (fun c => absurd c (by omega))
    rcases hfl with ⟨e, hz⟩ | ⟨e, hnz⟩
    · refine wp_r rfl (by omega) ?_
      rw [e]
      exact ht (fun a b ha hb => hz a b ha hb (by omega))
    · refine wp_r rfl (by omega) ?_
      rw [e]
      exact hf hnz
  | succ m ih =>
    intro R fl r d hR hr hfl
    refine wp_b rfl (by omega) (fun c => absurd c (by omega)) (fun c => ?_)
    refine wp_g rfl (by omega) ?_
    refine d_iz_in hN h1 hr (by omega) hg (fun fl2 d2 h2 => ?_) N 0 _ _ (by omega) (by omega) (hfl.imp (fun z => ⟨z.1, fun a b ha hb hab => z.2 a b ha hb (by omega)⟩) id)
    refine wp_g rfl (by omega) ?_
    exact ih (R + 1) _ _ _ (by omega) (by omega) h2
/-- isZero(m) -/
theorem d_isZero (hN : N ≤ 5) (h1 : s 1 = (N : Int)) {g : Nat → Int} (hg : ∀ a b, a < N → b < N → pj_rg (g (5 * a + b)))
    (ht : (∀ a b, a < N → b < N → g (5 * a + b) = 0) → Q (some (.inl 1)) [o_s, c_A 127 s, c_A 25 g]) (hf : (∃ a b, a < N ∧ b < N ∧ g (5 * a + b) ≠ 0) → Q (some (.inl 0)) [o_s, c_A 127 s, c_A 25 g]) : pj_ci X m_Mo_isZero [.inr 0, .inr 2] [o_s, c_A 127 s, c_A 25 g] Q := by
  refine wp_g rfl (by omega) ?_
  exact d_iz_out hN h1 hg ht hf N 0 _ _ _ (by omega) (by omega) (Or.inl ⟨rfl, fun a b _ _ h => by omega⟩)
/-- the answers -/
def an_ae (p : Int) (N : Nat) (T : Nat → Nat → Nat → Int) (v r c z : Int) : Prop := (¬ (0 ≤ v ∧ v < p ^ N ∧ 0 ≤ r ∧ r < N ∧ 0 ≤ c ∧ c < N) ∧ z = -1) ∨ ((0 ≤ v ∧ v < p ^ N ∧ 0 ≤ r ∧ r < N ∧ 0 ≤ c ∧ c < N) ∧ z = tt_bk p N T (nn_dg p v) (ln_e c.toNat) r.toNat)
def an_ni (p : Int) (N : Nat) (T : Nat → Nat → Nat → Int) (v z : Int) : Prop := (¬ (0 ≤ v ∧ v < p ^ N) ∧ z = -1) ∨ ((0 ≤ v ∧ v < p ^ N) ∧ ((∃ k : Nat, np_is p N T (nn_dg p v) N k ∧ z = (k : Int)) ∨ ((∃ j, j < N ∧ ¬ np_z N (np_i p N T (nn_dg p v) (ln_e j) N)) ∧ z = -9)))
def an_kl (p : Int) (N : Nat) (T : Nat → Nat → Nat → Int) (u v z : Int) : Prop := (¬ (0 ≤ u ∧ u < p ^ N ∧ 0 ≤ v ∧ v < p ^ N) ∧ z = -1) ∨ ((0 ≤ u ∧ u < p ^ N ∧ 0 ≤ v ∧ v < p ^ N) ∧ z = tr_v p N T (nn_dg p u) (nn_dg p v))
def an_kr (p : Int) (N : Nat) (T : Nat → Nat → Nat → Int) (z : Int) : Prop := ∃ R, ln_R p N R ∧ (∀ K, ln_sub p N K → (ln_g N R K ↔ ∀ i, i < N → K (kl_r p N T i))) ∧ z = (N : Int) - (ln_ct R N : Int)
theorem d_adjEntry (ht : tt_ok p N T) (hs : st_m p N T s) {v r c : Int} (hv : pj_rg v) (hr : pj_rg r) (hc : pj_rg c) {on f : Nat → Int}
    (hQ : ∀ (on f : Nat → Int) (z : Int), an_ae p N T v r c z → Q (some (.inl z)) (w_j0 s on f)) : pj_ci X m_Mo_adjointEntry [.inr 0, .inl v, .inl r, .inl c] (w_j0 s on f) Q := by
  obtain ⟨hp, h1N, hN, hT, -⟩ := id ht
  obtain ⟨h0, h1, h2⟩ := id hs
  have hpw := nn_pwle hp N hN
  have bad : ¬ (0 ≤ v ∧ v < p ^ N ∧ 0 ≤ r ∧ r < N ∧ 0 ≤ c ∧ c < N) → Q (some (.inl (-1))) (w_j0 s on f) := fun z => hQ on f _ (Or.inl ⟨z, rfl⟩)
  refine wp_c rfl (by omega) [0, 1] (d_isVector hp hN h0 h1 hv (fun a1 a2 => ?_) (fun a => ?_)) rfl rfl rfl rfl
  · refine wp_h (w_j0 s on f) rfl ?_
    refine wp_b rfl (by omega) (fun c => absurd c (by omega)) (fun _ => ?_)
    refine wp_c rfl (by omega) [0, 1] (d_isIndex hN h1 hr (fun b1 b2 => ?_) (fun b => ?_)) rfl rfl rfl rfl
    · refine wp_h (w_j0 s on f) rfl ?_
      refine wp_b rfl (by omega) (fun c => absurd c (by omega)) (fun _ => ?_)
      refine wp_c rfl (by omega) [0, 1] (d_isIndex hN h1 hc (fun c1 c2 => ?_) (fun b => ?_)) rfl rfl rfl rfl
      · refine wp_h (w_j0 s on f) rfl ?_
        refine wp_b rfl (by omega) (fun _ => ?_) (fun c => absurd c (by omega))
        refine wp_c rfl (by omega) [0, 1, 2, 3] (d_makeAdjoint ht hs ⟨a1, by omega⟩ (fun on2 f2 had => ?_)) rfl rfl rfl rfl
        refine wp_r rfl (by omega) (hQ on2 f2 _ (Or.inr ⟨⟨a1, a2, b1, b2, c1, c2⟩, ?_⟩))
        show f2 (5 * r + c).toNat = _
        rw [show (5 * r + c).toNat = 5 * r.toNat + c.toNat by omega]
        exact had _ _ (by omega) (by omega)
      · refine wp_h (w_j0 s on f) rfl ?_
        refine wp_b rfl (by omega) (fun c => absurd rfl c) (fun _ => ?_)
        exact wp_r rfl (by omega) (bad (by omega))
    · refine wp_h (w_j0 s on f) rfl ?_
      refine wp_b rfl (by omega) (fun _ => ?_) (fun c => absurd rfl c)
      exact wp_r rfl (by omega) (bad (by omega))
  · refine wp_h (w_j0 s on f) rfl ?_
    refine wp_b rfl (by omega) (fun _ => ?_) (fun c => absurd rfl c)
    exact wp_r rfl (by omega) (bad (by omega))
theorem ad_rg (hp : nn_p p) {V : ln_V} {f : Nat → Int} (h : ad_is p N T V f) : ∀ a b, a < N → b < N → 0 ≤ f (5 * a + b) ∧ f (5 * a + b) < p := fun a b ha hb => by
  rw [h a b ha hb]
  exact tt_bk_rg (nn_p_pos hp).1 _ _ _
theorem d_ni_copy {v k : Int} {on ma pr : Nat → Int}
    (hQ : ∀ (se : Nat → Int) (d : pj_V), (∀ i, i < 25 → se i = pr i) → pj_WP X m_Mo_nilpotencyIndex 96 [.inr 0, .inl v, .inl k, d] [] (w_n0 s on ma se pr) Q) :
    ∀ (m K : Nat) (se : Nat → Int) (i : Int), K + m = 25 → i = K → (∀ i, i < K → se i = pr i) → pj_WP X m_Mo_nilpotencyIndex 72 [.inr 0, .inl v, .inl k, .inl i] [] (w_n0 s on ma se pr) Q := by
  intro m
  induction m with
  | zero =>
    intro K se i hK hi ho
    refine wp_b rfl (by omega) (fun c => ?_) (fun c => absurd c (by omega))
    exact hQ se _ (fun k hk => ho k (by omega))
  | succ m ih =>
    intro K se i hK hi ho
    refine wp_b rfl (by omega) (fun c => absurd c (by omega)) (fun c => ?_)
    refine wp_g rfl (by omega) ?_
    refine ih (K + 1) _ _ (by omega) (by omega) (fun j hj => ?_)
    unfold pj_up
    rw [show i.toNat = K by omega]
    by_cases e : j = K
    · rw [if_pos e, e]
    · rw [if_neg e]
      exact ho j (by omega)
theorem d_ni_loop (ht : tt_ok p N T) (hs : st_m p N T s) {V : ln_V} {v : Int} {on ma : Nat → Int} (hma : ad_is p N T V ma)
    (h1 : ∀ (se pr : Nat → Int) (k : Nat), np_is p N T V N k → Q (some (.inl (k : Int))) (w_n0 s on ma se pr)) (h0 : ∀ se pr : Nat → Int, (∃ j, j < N ∧ ¬ np_z N (np_i p N T V (ln_e j) N)) → Q (some (.inl (-9))) (w_n0 s on ma se pr)) :
    ∀ (m K : Nat) (se pr : Nat → Int) (k : Int) (d : pj_V), K + m = N + 1 → k = K → 1 ≤ K → (∀ a b, a < N → b < N → se (5 * a + b) = np_i p N T V (ln_e b) K a) → (K = 1 ∨ ∃ j, j < N ∧ ¬ np_z N (np_i p N T V (ln_e j) (K - 1))) → pj_WP X m_Mo_nilpotencyIndex 35 [.inr 0, .inl v, .inl k, d] [] (w_n0 s on ma se pr) Q := by
  obtain ⟨hp, h1N, hN, hT, -⟩ := id ht
  obtain ⟨s0, s1, s2⟩ := id hs
  have h1' : s (Int.toNat 1) = (N : Int) := s1
  have hp3 := (nn_p_pos hp).2.2
  intro m
  induction m with
  | zero =>
    intro K se pr k d hK hk hK1 hse hor
    refine wp_b rfl (by omega) (fun c => ?_) (fun c => absurd c (by omega))
    refine wp_r rfl (by omega) (h0 se pr ?_)
    rcases hor with h | h
    · omega
    · rw [show K - 1 = N by omega] at h
      exact h
  | succ m ih =>
    intro K se pr k d hK hk hK1 hse hor
    have hrg : ∀ a b, a < N → b < N → 0 ≤ se (5 * a + b) ∧ se (5 * a + b) < p := fun a b ha hb => by rw [hse a b ha hb]; exact np_rg hp V b K a
    refine wp_b rfl (by omega) (fun c => absurd c (by omega)) (fun c => ?_)
    refine wp_c rfl (by omega) [0, 1, 4] (d_isZero hN s1 (fun a b ha hb => by have := hrg a b ha hb; unfold pj_rg; omega) (fun hz => ?_) (fun hnz => ?_)) rfl rfl rfl rfl
    · refine wp_h (w_n0 s on ma se pr) rfl ?_
      refine wp_b rfl (by omega) (fun c => absurd c (by omega)) (fun c => ?_)
      refine wp_r rfl (by omega) ?_
      rw [hk]
      refine h1 se pr K ⟨hK1, by omega, fun j hj a ha => ?_, hor⟩
      rw [← hse a j ha hj]
      exact hz a j ha hj
    · refine wp_h (w_n0 s on ma se pr) rfl ?_
      refine wp_b rfl (by omega) (fun c => ?_) (fun c => absurd rfl c)
      refine wp_c rfl (by omega) [0, 1, 5, 3, 4] (d_makeProduct hp hN s0 s1 (ad_rg hp hma) hrg (fun pr2 hpr => ?_)) rfl rfl rfl rfl
      refine wp_h (w_n0 s on ma se pr2) rfl ?_
      refine wp_g rfl (by omega) ?_
      refine d_ni_copy (fun se2 d2 hse2 => ?_) 25 0 _ _ (by omega) (by omega) (fun i hi => by omega)
      refine wp_g rfl (by omega) ?_
      refine ih (K + 1) _ _ _ _ (by omega) (by omega) (by omega) (fun a b ha hb => ?_) (Or.inr ?_)
      · rw [hse2 _ (by omega), hpr a b ha hb]
        show _ = tt_bk p N T V (np_i p N T V (ln_e b) K) a
        rw [← ad_lin]
        exact congrArg (· % p) (nn_sm_congr N (fun q hq => by rw [hma a q ha hq, hse q b hq hb]))
      · obtain ⟨a, b, ha, hb, hne⟩ := hnz
        refine ⟨b, hb, fun z => hne ?_⟩
        rw [hse a b ha hb]
        exact z a ha
theorem d_nilIndex (ht : tt_ok p N T) (hs : st_m p N T s) {v : Int} (hv : pj_rg v) {on ma se pr : Nat → Int}
    (hQ : ∀ (on ma se pr : Nat → Int) (z : Int), an_ni p N T v z → Q (some (.inl z)) (w_n0 s on ma se pr)) : pj_ci X m_Mo_nilpotencyIndex [.inr 0, .inl v] (w_n0 s on ma se pr) Q := by
  obtain ⟨hp, h1N, hN, hT, -⟩ := id ht
  obtain ⟨h0, h1, h2⟩ := id hs
  have hpw := nn_pwle hp N hN
  refine wp_c rfl (by omega) [0, 1] (d_isVector hp hN h0 h1 hv (fun a1 a2 => ?_) (fun a => ?_)) rfl rfl rfl rfl
  · refine wp_h (w_n0 s on ma se pr) rfl ?_
    refine wp_b rfl (by omega) (fun _ => ?_) (fun c => absurd c (by omega))
    refine wp_c rfl (by omega) [0, 1, 2, 3] (d_makeAdjoint ht hs ⟨a1, by omega⟩ (fun on2 ma2 hma => ?_)) rfl rfl rfl rfl
    refine wp_h (w_n0 s on2 ma2 se pr) rfl ?_
    refine wp_c rfl (by omega) [0, 1, 2, 4] (d_makeAdjoint ht hs ⟨a1, by omega⟩ (fun on3 se3 hse => ?_)) rfl rfl rfl rfl
    refine wp_h (w_n0 s on3 ma2 se3 pr) rfl ?_
    refine wp_g rfl (by omega) ?_
    exact d_ni_loop ht hs hma (fun se pr k hk => hQ _ _ _ _ _ (Or.inr ⟨⟨a1, a2⟩, Or.inl ⟨k, hk, rfl⟩⟩)) (fun se pr hx => hQ _ _ _ _ _ (Or.inr ⟨⟨a1, a2⟩, Or.inr ⟨hx, rfl⟩⟩)) N 1 _ _ _ _ (by omega) rfl (by omega) (fun a b ha hb => hse a b ha hb) (Or.inl rfl)
  · refine wp_h (w_n0 s on ma se pr) rfl ?_
    refine wp_b rfl (by omega) (fun c => absurd rfl c) (fun _ => ?_)
    exact wp_r rfl (by omega) (hQ _ _ _ _ _ (Or.inl ⟨by omega, rfl⟩))
theorem d_kl_loop (ht : tt_ok p N T) (hs : st_m p N T s) {U V : ln_V} {u v : Int} {on ma se pr : Nat → Int} (hpr : ∀ a, a < N → pr (6 * a) = tr_t p N T U V a) (hQ : Q (some (.inl (tr_v p N T U V))) (w_k s on ma se pr)) :
    ∀ (m K : Nat) (x k : Int), K + m = N → k = K → x = nn_sm K (tr_t p N T U V) → pj_WP X m_Mo_killingOf 35 [.inr 0, .inl u, .inl v, .inl x, .inl k] [] (w_k s on ma se pr) Q := by
  obtain ⟨hp, h1N, hN, hT, -⟩ := id ht
  obtain ⟨hp1, hp2, hp3⟩ := nn_p_pos hp
  obtain ⟨s0, s1, s2⟩ := id hs
  have h1' : s (Int.toNat 1) = (N : Int) := s1
  intro m
  induction m with
  | zero =>
    intro K x k hK hk hx
    have hr := tr_rg (N := N) (T := T) hp1 hp3 U V K
    rw [← hx] at hr
    refine wp_b rfl (by omega) (fun c => ?_) (fun c => absurd c (by omega))
    refine wp_c rfl (by omega) [0, 1] (d_mod hp s0 (by unfold pj_rg; omega) ?_) rfl rfl rfl rfl
    refine wp_r rfl (by omega) ?_
    rw [hx, show K = N by omega]
    exact hQ
  | succ m ih =>
    intro K x k hK hk hx
    refine wp_b rfl (by omega) (fun c => absurd c (by omega)) (fun c => ?_)
    refine wp_g rfl (by omega) ?_
    refine ih (K + 1) _ _ (by omega) (by omega) ?_
    rw [show (6 * k).toNat = 6 * K by omega, hpr K (by omega), hx]
    rfl
/-- killingOf(u, v) -/
theorem d_killingOf (ht : tt_ok p N T) (hs : st_m p N T s) {u v : Int} (hu : 0 ≤ u ∧ u ≤ 2147483647) (hv : 0 ≤ v ∧ v ≤ 2147483647) {on ma se pr : Nat → Int}
    (hQ : ∀ on ma se pr : Nat → Int, Q (some (.inl (tr_v p N T (nn_dg p u) (nn_dg p v)))) (w_k s on ma se pr)) : pj_ci X m_Mo_killingOf [.inr 0, .inl u, .inl v] (w_k s on ma se pr) Q := by
  obtain ⟨hp, h1N, hN, hT, -⟩ := id ht
  obtain ⟨s0, s1, s2⟩ := id hs
  refine wp_c rfl (by omega) [0, 1, 2, 3] (d_makeAdjoint ht hs hu (fun on2 ma2 hma => ?_)) rfl rfl rfl rfl
  refine wp_h (w_k s on2 ma2 se pr) rfl ?_
  refine wp_c rfl (by omega) [0, 1, 2, 4] (d_makeAdjoint ht hs hv (fun on3 se3 hse => ?_)) rfl rfl rfl rfl
  refine wp_h (w_k s on3 ma2 se3 pr) rfl ?_
  refine wp_c rfl (by omega) [0, 1, 5, 3, 4] (d_makeProduct hp hN s0 s1 (ad_rg hp hma) (ad_rg hp hse) (fun pr2 hpr => ?_)) rfl rfl rfl rfl
  refine wp_h (w_k s on3 ma2 se3 pr2) rfl ?_
  refine wp_g rfl (by omega) ?_
  refine d_kl_loop ht hs (U := nn_dg p u) (V := nn_dg p v) (fun a ha => ?_) (hQ _ _ _ _) N 0 _ _ (by omega) (by omega) rfl
  rw [show 6 * a = 5 * a + a by omega, hpr a a ha ha]
  show _ = tt_bk p N T (nn_dg p u) (tt_bk p N T (nn_dg p v) (ln_e a)) a
  rw [← ad_lin]
  exact congrArg (· % p) (nn_sm_congr N (fun q hq => by rw [hma a q ha hq, hse q a hq ha]))
abbrev w_k0 (s on ma se pr : Nat → Int) : List pj_C := w_n0 s on ma se pr
theorem d_killing (ht : tt_ok p N T) (hs : st_m p N T s) {u v : Int} (hu : pj_rg u) (hv : pj_rg v) {on ma se pr : Nat → Int}
    (hQ : ∀ (on ma se pr : Nat → Int) (z : Int), an_kl p N T u v z → Q (some (.inl z)) (w_n0 s on ma se pr)) : pj_ci X m_Mo_killing [.inr 0, .inl u, .inl v] (w_n0 s on ma se pr) Q := by
  obtain ⟨hp, h1N, hN, hT, -⟩ := id ht
  obtain ⟨h0, h1, h2⟩ := id hs
  have hpw := nn_pwle hp N hN
  refine wp_c rfl (by omega) [0, 1] (d_isVector hp hN h0 h1 hu (fun a1 a2 => ?_) (fun a => ?_)) rfl rfl rfl rfl
  · refine wp_h (w_n0 s on ma se pr) rfl ?_
    refine wp_b rfl (by omega) (fun c => absurd c (by omega)) (fun _ => ?_)
    refine wp_c rfl (by omega) [0, 1] (d_isVector hp hN h0 h1 hv (fun b1 b2 => ?_) (fun b => ?_)) rfl rfl rfl rfl
    · refine wp_h (w_n0 s on ma se pr) rfl ?_
      refine wp_b rfl (by omega) (fun c => absurd c (by omega)) (fun _ => ?_)
      refine wp_c rfl (by omega) [0, 1, 2, 3, 4, 5] (d_killingOf ht hs ⟨a1, by omega⟩ ⟨b1, by omega⟩ (fun on2 ma2 se2 pr2 => ?_)) rfl rfl rfl rfl
      exact wp_r rfl (by omega) (hQ on2 ma2 se2 pr2 _ (Or.inr ⟨⟨a1, a2, b1, b2⟩, rfl⟩))
    · refine wp_h (w_n0 s on ma se pr) rfl ?_
      refine wp_b rfl (by omega) (fun _ => ?_) (fun c => absurd rfl c)
      exact wp_r rfl (by omega) (hQ _ _ _ _ _ (Or.inl ⟨by omega, rfl⟩))
  · refine wp_h (w_n0 s on ma se pr) rfl ?_
    refine wp_b rfl (by omega) (fun _ => ?_) (fun c => absurd rfl c)
    exact wp_r rfl (by omega) (hQ _ _ _ _ _ (Or.inl ⟨by omega, rfl⟩))
theorem nn_dg_e (hp : nn_p p) (i : Nat) : nn_dg p (p ^ i) = ln_e i := funext fun k => nn_dg_pw hp i k
theorem d_kr_in (ht : tt_ok p N T) (hs : st_m p N T s) {I : Nat} {i : Int} {h eq : Nat → Int} (hi : i = I) (hI : I < N)
    (hQ : ∀ (on ma se pr r : Nat → Int) (d : pj_V), (∀ j, j < 5 → r j = if j < N then kl_r p N T I j else 0) → pj_WP X m_Mo_killingRadicalDimension 81 [.inr 0, .inl i, d] [] (w_r0 s on ma se pr h r eq) Q) :
    ∀ (m J : Nat) (on ma se pr r : Nat → Int) (j : Int), J + m = 5 → j = J → (∀ j, j < J → r j = if j < N then kl_r p N T I j else 0) → pj_WP X m_Mo_killingRadicalDimension 26 [.inr 0, .inl i, .inl j] [] (w_r0 s on ma se pr h r eq) Q := by
  obtain ⟨hp, h1N, hN, hT, -⟩ := id ht
  obtain ⟨hp1, hp2, hp3⟩ := nn_p_pos hp
  obtain ⟨s0, s1, s2⟩ := id hs
  have h1' : s (Int.toNat 1) = (N : Int) := s1
  have h0' : s (Int.toNat 0) = p := s0
  intro m
  induction m with
  | zero =>
    intro J on ma se pr r j hJ hj hr
    refine wp_b rfl (by omega) (fun c => ?_) (fun c => absurd c (by omega))
    exact hQ on ma se pr r _ (fun q hq => hr q (by omega))
  | succ m ih =>
    intro J on ma se pr r j hJ hj hr
    have next : ∀ x : Int, x = (if J < N then kl_r p N T I J else 0) → ∀ q, q < J + 1 → pj_up r j.toNat x q = if q < N then kl_r p N T I q else 0 := fun x hx q hq => by
      unfold pj_up
      rw [show j.toNat = J by omega]
      by_cases e : q = J
      · subst e
        rw [if_pos rfl, hx]
      · rw [if_neg e]
        exact hr q (by omega)
    refine wp_b rfl (by omega) (fun c => absurd c (by omega)) (fun c => ?_)
    refine wp_b rfl (by omega) (fun c => ?_) (fun c => ?_)
    · refine wp_g rfl (by omega) ?_
      exact ih (J + 1) _ _ _ _ _ _ (by omega) (by omega) (next _ (by rw [if_neg (by omega)]))
    · have pI := nn_pwle hp I (by omega)
      have pI1 := nn_pw1 hp1 I
      have pJ := nn_pwle hp J (by omega)
      have pJ1 := nn_pw1 hp1 J
      refine wp_c rfl (by omega) [] (d_power (p := s (Int.toNat 0)) (E := I) (by omega) hi ?_) rfl rfl rfl rfl
      rw [h0']
      refine wp_h (w_r0 s on ma se pr h r eq) rfl ?_
      refine wp_c rfl (by omega) [] (d_power (p := s (Int.toNat 0)) (E := J) (by omega) hj ?_) rfl rfl rfl rfl
      rw [h0']
      refine wp_h (w_r0 s on ma se pr h r eq) rfl ?_
      refine wp_c rfl (by omega) [0, 1, 2, 3, 4, 5] (d_killingOf ht hs (u := p ^ I) (v := p ^ J) (by omega) (by omega) (fun on2 ma2 se2 pr2 => ?_)) rfl rfl rfl rfl
      refine wp_h (w_r0 s on2 ma2 se2 pr2 h r eq) rfl ?_
      refine wp_g rfl (by omega) ?_
      exact ih (J + 1) _ _ _ _ _ _ (by omega) (by omega) (next _ (by rw [if_pos (by omega), nn_dg_e hp, nn_dg_e hp]; rfl))
theorem d_kr_out (ht : tt_ok p N T) (hs : st_m p N T s)
    (hQ : ∀ (on ma se pr h r eq : Nat → Int) (z : Int), an_kr p N T z → Q (some (.inl z)) (w_r0 s on ma se pr h r eq)) :
    ∀ (m I : Nat) (on ma se pr h r eq : Nat → Int) (R : Nat → ln_V) (i : Int) (d : pj_V), I + m = N → i = I → cm_ok p N R eq → (∀ K, ln_sub p N K → (ln_g N R K ↔ ∀ i, i < I → K (kl_r p N T i))) → pj_WP X m_Mo_killingRadicalDimension 14 [.inr 0, .inl i, d] [] (w_r0 s on ma se pr h r eq) Q := by
  obtain ⟨hp, h1N, hN, hT, -⟩ := id ht
  obtain ⟨hp1, hp2, hp3⟩ := nn_p_pos hp
  obtain ⟨s0, s1, s2⟩ := id hs
  have h1' : s (Int.toNat 1) = (N : Int) := s1
  intro m
  induction m with
  | zero =>
    intro I on ma se pr h r eq R i d hI hi hok hinv
    have z0 : eq (Int.toNat 0) = (ln_ct R N : Int) := hok.2.1
    refine wp_b rfl (by omega) (fun c => ?_) (fun c => absurd c (by omega))
    refine wp_r rfl (by omega) ?_
    rw [h1', z0]
    rw [show I = N by omega] at hinv
    exact hQ _ _ _ _ _ _ _ _ ⟨R, hok.1, hinv, rfl⟩
  | succ m ih =>
    intro I on ma se pr h r eq R i d hI hi hok hinv
    refine wp_b rfl (by omega) (fun c => absurd c (by omega)) (fun c => ?_)
    refine wp_g rfl (by omega) ?_
    refine d_kr_in ht hs hi (by omega) (fun on2 ma2 se2 pr2 r2 d2 hr2 => ?_) 5 0 _ _ _ _ _ _ (by omega) (by omega) (fun j hj => by omega)
    have er : ∀ c, c < N → r2 (0 + c) = kl_r p N T I c := fun c hc => by rw [Nat.zero_add, hr2 c (by omega), if_pos hc]
    refine wp_c rfl (by omega) [0, 1, 6, 8, 7] (d_add (len := 5) (F := 0) (R := R) (by omega) hp hN s0 s1 hok rfl (by omega) (fun c hc => by
      rw [Nat.zero_add, hr2 c hc]
      by_cases e : c < N
      · rw [if_pos e]
        have := kl_rg (N := N) (T := T) hp1 I c
        exact ⟨this.1, this.2, fun z => by omega⟩
      · rw [if_neg e]
        exact ⟨Int.le_refl 0, hp1, fun _ => rfl⟩) (fun eq2 h2 R2 bb hj hok2 => ?_)) rfl rfl rfl rfl
    refine wp_h (w_r0 s on2 ma2 se2 pr2 h2 r2 eq2) rfl ?_
    refine wp_g rfl (by omega) ?_
    refine ih (I + 1) _ _ _ _ _ _ _ R2 _ _ (by omega) (by omega) hok2 (fun K hK => ?_)
    have e : K (fun k => r2 (0 + k)) ↔ K (kl_r p N T I) := ⟨hK.2.2.2 _ _ (fun c hc => by rw [er c hc]; exact nn_eq_rfl p _), hK.2.2.2 _ _ (fun c hc => by rw [er c hc]; exact nn_eq_rfl p _)⟩
    rw [hj.2.1 K hK, hinv K hK, e]
    constructor
    · rintro ⟨a1, a2⟩ q hq
      by_cases hqI : q = I
      · rw [hqI]; exact a2
      · exact a1 q (by omega)
    · intro a
      exact ⟨fun q hq => a q (by omega), a I (by omega)⟩
theorem d_killRad (ht : tt_ok p N T) (hs : st_m p N T s) {on ma se pr h r eq : Nat → Int}
    (hQ : ∀ (on ma se pr h r eq : Nat → Int) (z : Int), an_kr p N T z → Q (some (.inl z)) (w_r0 s on ma se pr h r eq)) : pj_ci X m_Mo_killingRadicalDimension [.inr 0] (w_r0 s on ma se pr h r eq) Q := by
  obtain ⟨hp, h1N, hN, hT, -⟩ := id ht
  refine wp_g rfl (by omega) ?_
  exact d_kr_out ht hs hQ N 0 _ _ _ _ _ _ _ (fun _ _ => 0) _ _ (by omega) (by omega) (cm_ok_zero (f := pj_up eq (Int.toNat 0) 0) hp rfl) (fun K hK => ⟨fun _ i hi => absurd hi (by omega), fun _ r _ => hK.1⟩)
end ADJ
