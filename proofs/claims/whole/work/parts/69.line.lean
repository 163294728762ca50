/-! THE MODEL: addLine: rows that are echelon, but neither sorted nor reduced -/
abbrev o_l (rk : Int) : pj_C := .inr (8, [v_u, .inr 1, v_u, v_u, v_u, v_u, v_u, v_u, v_u, v_u, v_u, v_u, v_u, v_u, v_u, v_u, v_u, v_u, v_u, v_u, v_u, v_u, v_u, .inr 2, .inl rk, .inr 3, v_u, v_u])
abbrev w_l (s g v : Nat → Int) (rk : Int) : List pj_C := [o_l rk, c_A 127 s, c_A 625 g, c_A 25 v]
section LINE
variable {p : Int}
/-- m rows; ld their leads, iv the inverses of their values there -/
def ll_ok (p : Int) (m : Nat) (g : Nat → Int) (ld : Nat → Nat) (iv : Nat → Int) : Prop := ∀ r, r < m → ld r < 25 ∧ (∀ c, c < 25 → 0 ≤ g (25 * r + c) ∧ g (25 * r + c) < p) ∧ (∀ c, c < ld r → g (25 * r + c) = 0) ∧ g (25 * r + ld r) ≠ 0 ∧ iv r * g (25 * r + ld r) % p = 1 ∧ ∀ q, q < r → g (25 * r + ld q) = 0
/-- a line, reduced by the first rows -/
def ll_rd (g : Nat → Int) (ld : Nat → Nat) (iv : Nat → Int) : Nat → ln_V → ln_V
  | 0, y => y
  | r + 1, y => fun c => ll_rd g ld iv r y c - ll_rd g ld iv r y (ld r) * iv r * g (25 * r + c)
theorem ll_add {g : Nat → Int} {ld : Nat → Nat} {iv : Nat → Int} (x y : ln_V) : ∀ m c, ll_rd g ld iv m (fun c => x c + y c) c = ll_rd g ld iv m x c + ll_rd g ld iv m y c
  | 0, _ => rfl
  | m + 1, c => by
    show ll_rd g ld iv m (fun c => x c + y c) c - ll_rd g ld iv m (fun c => x c + y c) (ld m) * iv m * g (25 * m + c) = ll_rd g ld iv m x c - ll_rd g ld iv m x (ld m) * iv m * g (25 * m + c) + (ll_rd g ld iv m y c - ll_rd g ld iv m y (ld m) * iv m * g (25 * m + c))
    rw [ll_add x y m c, ll_add x y m (ld m), Int.add_mul, Int.add_mul]
    omega
theorem ll_mul {g : Nat → Int} {ld : Nat → Nat} {iv : Nat → Int} (a : Int) (x : ln_V) : ∀ m c, ll_rd g ld iv m (fun c => a * x c) c = a * ll_rd g ld iv m x c
  | 0, _ => rfl
  | m + 1, c => by
    show ll_rd g ld iv m (fun c => a * x c) c - ll_rd g ld iv m (fun c => a * x c) (ld m) * iv m * g (25 * m + c) = a * (ll_rd g ld iv m x c - ll_rd g ld iv m x (ld m) * iv m * g (25 * m + c))
    rw [ll_mul a x m c, ll_mul a x m (ld m), Int.mul_sub, Int.mul_assoc, Int.mul_assoc, Int.mul_assoc]
theorem ll_congr {g : Nat → Int} {ld : Nat → Nat} {iv : Nat → Int} {x y : ln_V} (h : ln_eq p 25 x y) : ∀ m, (∀ r, r < m → ld r < 25) → ln_eq p 25 (ll_rd g ld iv m x) (ll_rd g ld iv m y)
  | 0, _ => h
  | m + 1, hl => fun c hc => nn_eq_sub (ll_congr h m (fun r hr => hl r (by omega)) c hc) (nn_eq_mul (nn_eq_mul (ll_congr h m (fun r hr => hl r (by omega)) (ld m) (hl m (by omega))) (nn_eq_rfl p _)) (nn_eq_rfl p _))
theorem ll_zero {g : Nat → Int} {ld : Nat → Nat} {iv : Nat → Int} : ∀ m c, ll_rd g ld iv m (fun _ => 0) c = 0
  | 0, _ => rfl
  | m + 1, c => by
    show ll_rd g ld iv m (fun _ => 0) c - ll_rd g ld iv m (fun _ => 0) (ld m) * iv m * g (25 * m + c) = 0
    rw [ll_zero m c, ll_zero m (ld m), Int.zero_mul, Int.zero_mul]
    rfl
/-- what the reduction sends to 0 is a subspace -/
theorem ll_sub {g : Nat → Int} {ld : Nat → Nat} {iv : Nat → Int} {m : Nat} (hl : ∀ r, r < m → ld r < 25) : ln_sub p 25 (fun y => ln_eq p 25 (ll_rd g ld iv m y) (fun _ => 0)) := by
  refine ⟨fun c _ => by rw [ll_zero]; exact nn_eq_rfl p 0, fun x y hx hy c hc => ?_, fun a x hx c hc => ?_, fun x y e hx => ?_⟩
  · show nn_eq p (ll_rd g ld iv m (fun c => x c + y c) c) 0
    rw [ll_add]
    exact nn_eq_add (hx c hc) (hy c hc)
  · show nn_eq p (ll_rd g ld iv m (fun c => a * x c) c) 0
    rw [ll_mul]
    have := nn_eq_mul (nn_eq_rfl p a) (hx c hc)
    rw [Int.mul_zero] at this
    exact this
  · exact ln_eq_trans (ln_eq_symm (ll_congr e m hl)) hx
/-- what is 0 at the leads stays -/
theorem ll_keep {g : Nat → Int} {ld : Nat → Nat} {iv : Nat → Int} {y : ln_V} : ∀ m, (∀ r, r < m → ld r < 25) → (∀ r, r < m → nn_eq p (y (ld r)) 0) → ln_eq p 25 (ll_rd g ld iv m y) y
  | 0, _, _ => ln_eq_rfl _
  | m + 1, hl, h => fun c hc => by
    have ih := ll_keep (g := g) (iv := iv) m (fun r hr => hl r (by omega)) (fun r hr => h r (by omega))
    have h1 := nn_eq_trans (ih (ld m) (hl m (by omega))) (h m (by omega))
    have h2 := nn_eq_sub (ih c hc) (nn_eq_mul (nn_eq_mul h1 (nn_eq_rfl p (iv m))) (nn_eq_rfl p (g (25 * m + c))))
    rw [Int.zero_mul, Int.zero_mul, Int.sub_zero] at h2
    exact h2
/-- a reduced line is 0 at the leads -/
theorem ll_at {g : Nat → Int} {ld : Nat → Nat} {iv : Nat → Int} (hp : 1 < p) {y : ln_V} : ∀ m, ll_ok p m g ld iv → ∀ r, r < m → nn_eq p (ll_rd g ld iv m y (ld r)) 0
  | 0, _, r, hr => absurd hr (by omega)
  | m + 1, h, r, hr => by
    obtain ⟨m1, m2, m3, m4, m5, m6⟩ := h m (by omega)
    show nn_eq p (ll_rd g ld iv m y (ld r) - ll_rd g ld iv m y (ld m) * iv m * g (25 * m + ld r)) 0
    by_cases e : r = m
    · subst e
      have e1 : nn_eq p (iv r * g (25 * r + ld r)) 1 := nn_eq_iff.mpr (by rw [m5, Int.emod_eq_of_lt (by omega) hp])
      have e2 := nn_eq_sub (nn_eq_rfl p (ll_rd g ld iv r y (ld r))) (nn_eq_mul (nn_eq_rfl p (ll_rd g ld iv r y (ld r))) e1)
      rw [Int.mul_one, Int.sub_self, ← Int.mul_assoc] at e2
      exact e2
    · rw [m6 r (by omega), Int.mul_zero, Int.sub_zero]
      exact ll_at hp m (fun q hq => h q (by omega)) r (by omega)
/-- a row is reduced to 0 -/
theorem ll_row {g : Nat → Int} {ld : Nat → Nat} {iv : Nat → Int} (hp : 1 < p) {q : Nat} : ∀ m, ll_ok p m g ld iv → q < m → ln_eq p 25 (ll_rd g ld iv m (fun c => g (25 * q + c))) (fun _ => 0)
  | 0, _, hq => absurd hq (by omega)
  | m + 1, h, hq => by
    obtain ⟨m1, m2, m3, m4, m5, m6⟩ := h m (by omega)
    by_cases e : q = m
    · subst e
      intro c hc
      have ih := ll_keep (p := p) (g := g) (ld := ld) (iv := iv) (y := fun c => g (25 * q + c)) q (fun r hr => (h r (by omega)).1) (fun r hr => by
        show nn_eq p (g (25 * q + ld r)) 0
        rw [m6 r hr]
        exact nn_eq_rfl p 0)
      have e1 : nn_eq p (iv q * g (25 * q + ld q)) 1 := nn_eq_iff.mpr (by rw [m5, Int.emod_eq_of_lt (by omega) hp])
      have e3 : nn_eq p (ll_rd g ld iv q (fun c => g (25 * q + c)) (ld q) * iv q) 1 := by
        have e4 := nn_eq_mul (ih (ld q) m1) (nn_eq_rfl p (iv q))
        refine nn_eq_trans e4 ?_
        show nn_eq p (g (25 * q + ld q) * iv q) 1
        rw [Int.mul_comm]
        exact e1
      have e5 := nn_eq_sub (ih c hc) (nn_eq_mul e3 (nn_eq_rfl p (g (25 * q + c))))
      rw [Int.one_mul] at e5
      have e5 : nn_eq p (ll_rd g ld iv q (fun c => g (25 * q + c)) c - ll_rd g ld iv q (fun c => g (25 * q + c)) (ld q) * iv q * g (25 * q + c)) (g (25 * q + c) - g (25 * q + c)) := e5
      rw [Int.sub_self] at e5
      exact e5
    · intro c hc
      have ih := ll_row hp m (fun r hr => h r (by omega)) (show q < m by omega)
      have e5 := nn_eq_sub (ih c hc) (nn_eq_mul (nn_eq_mul (ih (ld m) m1) (nn_eq_rfl p (iv m))) (nn_eq_rfl p (g (25 * m + c))))
      rw [Int.zero_mul, Int.zero_mul] at e5
      exact e5
/-- in a subspace that holds the rows: the line or what is left of it -/
theorem ll_W {g : Nat → Int} {ld : Nat → Nat} {iv : Nat → Int} {W : ln_P} (hW : ln_sub p 25 W) {y : ln_V} : ∀ m, (∀ r, r < m → W (fun c => g (25 * r + c))) → (W y ↔ W (ll_rd g ld iv m y))
  | 0, _ => Iff.rfl
  | m + 1, h => by
    rw [ll_W hW m (fun r hr => h r (by omega))]
    have hr := h m (by omega)
    constructor
    · intro h1
      exact ln_sub_sub hW h1 hr (ll_rd g ld iv m y (ld m) * iv m)
    · intro h1
      have h2 := hW.2.1 _ _ h1 (hW.2.2.1 (ll_rd g ld iv m y (ld m) * iv m) _ hr)
      refine hW.2.2.2 _ _ (fun c _ => ?_) h2
      show nn_eq p (ll_rd g ld iv m y c - ll_rd g ld iv m y (ld m) * iv m * g (25 * m + c) + ll_rd g ld iv m y (ld m) * iv m * g (25 * m + c)) (ll_rd g ld iv m y c)
      rw [Int.sub_add_cancel]
      exact nn_eq_rfl p _
end LINE
section LINE2
variable {X : pj_X} {Q : pj_Q} {p : Int} {s : Nat → Int}
theorem d_al_lead {g v : Nat → Int} {rk r : Int} {R L : Nat} {d3 d4 : pj_V} (hr : r = R) (hR : R < 25) (hL : L < 25) (hz : ∀ c, c < L → g (25 * R + c) = 0) (hne : g (25 * R + L) ≠ 0) (hrg : ∀ c, c < 25 → pj_rg (g (25 * R + c)))
    (hQ : pj_WP X m_Mo_addLine 32 [.inr 0, .inl r, .inl (L : Int), d3, d4] [] (w_l s g v rk) Q) :
    ∀ (m K : Nat) (k : Int), K + m = L → k = K → pj_WP X m_Mo_addLine 12 [.inr 0, .inl r, .inl k, d3, d4] [] (w_l s g v rk) Q := by
  intro m
  induction m with
  | zero =>
    intro K k hK hk
    have e : (25 * r + k).toNat = 25 * R + L := by omega
    obtain ⟨a, b⟩ := hrg L hL
    refine wp_b rfl (by rw [e]; omega) (fun c => ?_) (fun c => ?_)
    · rw [show k = (L : Int) by omega]
      exact hQ
    · rw [e] at c
      exact absurd hne c
  | succ m ih =>
    intro K k hK hk
    have e : (25 * r + k).toNat = 25 * R + K := by omega
    have z := hz K (by omega)
    refine wp_b rfl (by rw [e]; omega) (fun c => ?_) (fun c => ?_)
    · rw [e] at c
      exact absurd z c
    · refine wp_g rfl (by omega) ?_
      exact ih (K + 1) _ (by omega) (by omega)
theorem d_al_row {g v : Nat → Int} {rk r a ld : Int} {R : Nat} (hp : nn_p p) (h0 : s 0 = p) (hr : r = R) (hR : R < 25) (ha : 0 ≤ a ∧ a < p) (hg : ∀ c, c < 25 → 0 ≤ g (25 * R + c) ∧ g (25 * R + c) < p) (hv : ∀ c, c < 25 → 0 ≤ v c ∧ v c < p)
    (hQ : ∀ (v' : Nat → Int) (d4 : pj_V), (∀ c, c < 25 → v' c = (v c - a * g (25 * R + c)) % p) → pj_WP X m_Mo_addLine 108 [.inr 0, .inl r, .inl ld, .inl a, d4] [] (w_l s g v' rk) Q) :
    ∀ (m K : Nat) (v' : Nat → Int) (k : Int), K + m = 25 → k = K → (∀ c, c < 25 → v' c = if c < K then (v c - a * g (25 * R + c)) % p else v c) → pj_WP X m_Mo_addLine 62 [.inr 0, .inl r, .inl ld, .inl a, .inl k] [] (w_l s g v' rk) Q := by
  obtain ⟨hp1, hp2, hp3⟩ := nn_p_pos hp
  intro m
  induction m with
  | zero =>
    intro K v' k hK hk h
    refine wp_b rfl (by omega) (fun c => ?_) (fun c => absurd c (by omega))
    refine hQ v' _ (fun c hc => ?_)
    rw [h c hc, if_pos (by omega)]
  | succ m ih =>
    intro K v' k hK hk h
    have e1 : k.toNat = K := by omega
    have e2 : (25 * r + k).toNat = 25 * R + K := by omega
    have e3 : v' K = v K := by rw [h K (by omega), if_neg (by omega)]
    have r1 := nn_f7 hp ha (hg K (by omega))
    have r2 := hv K (by omega)
    refine wp_b rfl (by omega) (fun c => absurd c (by omega)) (fun c => ?_)
    refine wp_c rfl (by omega) [0, 1] (d_mod hp h0 (by rw [e1, e2, e3]; unfold pj_rg; omega) ?_) rfl rfl rfl rfl
    rw [e1, e2, e3]
    refine wp_h (w_l s g v' rk) rfl ?_
    refine wp_g rfl (by omega) ?_
    rw [e1]
    refine ih (K + 1) _ _ (by omega) (by omega) (fun c hc => ?_)
    unfold pj_up
    by_cases e : c = K
    · subst e
      rw [if_pos rfl, if_pos (by omega)]
    · rw [if_neg e, h c hc]
      by_cases e9 : c < K
      · rw [if_pos e9, if_pos (by omega)]
      · rw [if_neg e9, if_neg (by omega)]
set_option maxHeartbeats 1000000 in
theorem d_al_red {g : Nat → Int} {rk : Int} {M : Nat} {ld : Nat → Nat} {iv : Nat → Int} {y : ln_V} (hp : nn_p p) (h0 : s 0 = p) (hrk : rk = M) (hM : M ≤ 25) (hok : ll_ok p M g ld iv)
    (hQ : ∀ (v : Nat → Int) (d1 d2 d3 d4 : pj_V), (∀ c, c < 25 → 0 ≤ v c ∧ v c < p) → ln_eq p 25 v (ll_rd g ld iv M y) → pj_WP X m_Mo_addLine 114 [.inr 0, d1, d2, d3, d4] [] (w_l s g v rk) Q) :
    ∀ (m R : Nat) (v : Nat → Int) (r : Int) (d2 d3 d4 : pj_V), R + m = M → r = R → (∀ c, c < 25 → 0 ≤ v c ∧ v c < p) → ln_eq p 25 v (ll_rd g ld iv R y) → pj_WP X m_Mo_addLine 2 [.inr 0, .inl r, d2, d3, d4] [] (w_l s g v rk) Q := by
  obtain ⟨hp1, hp2, hp3⟩ := nn_p_pos hp
  intro m
  induction m with
  | zero =>
    intro R v r d2 d3 d4 hR hr hv he
    refine wp_b rfl (by omega) (fun c => ?_) (fun c => absurd c (by omega))
    rw [show R = M by omega] at he
    exact hQ v _ _ _ _ hv he
  | succ m ih =>
    intro R v r d2 d3 d4 hR hr hv he
    obtain ⟨m1, m2, m3, m4, m5, m6⟩ := hok R (by omega)
    have hgl := m2 (ld R) m1
    have hvl := hv (ld R) m1
    refine wp_b rfl (by omega) (fun c => absurd c (by omega)) (fun c => ?_)
    refine wp_g rfl (by omega) ?_
    refine d_al_lead (R := R) (L := ld R) hr (by omega) m1 m3 m4 (fun c hc => by have := m2 c hc; unfold pj_rg; omega) ?_ (ld R) 0 _ (by omega) (by omega)
    have e1 : ((ld R : Nat) : Int).toNat = ld R := Int.toNat_natCast _
    have e2 : (25 * r + ((ld R : Nat) : Int)).toNat = 25 * R + ld R := by omega
    refine wp_c rfl (by omega) [0, 1] (d_inverse hp h0 (by rw [e2]; omega) (fun x x1 x2 x3 => ?_)) rfl rfl rfl rfl
    rw [e2] at x3
    have r1 := nn_f7 hp hvl (show 0 ≤ x ∧ x < p by omega)
    refine wp_h (w_l s g v rk) rfl ?_
    refine wp_c rfl (by omega) [0, 1] (d_mod hp h0 (by rw [e1]; unfold pj_rg; omega) ?_) rfl rfl rfl rfl
    rw [e1]
    refine wp_h (w_l s g v rk) rfl ?_
    refine wp_g rfl (by omega) ?_
    refine d_al_row (R := R) (v := v) hp h0 hr (by omega) ⟨Int.emod_nonneg _ (by omega), Int.emod_lt_of_pos _ hp1⟩ m2 hv (fun v2 d hv2 => ?_) 25 0 _ _ (by omega) (by omega) (fun c _ => by rw [if_neg (by omega)])
    refine wp_g rfl (by omega) ?_
    refine ih (R + 1) _ _ _ _ _ (by omega) (by omega) (fun c hc => by rw [hv2 c hc]; exact ⟨Int.emod_nonneg _ (by omega), Int.emod_lt_of_pos _ hp1⟩) (fun c hc => ?_)
    rw [hv2 c hc]
    refine nn_eq_trans (nn_eq_mod p _) ?_
    have ex : nn_eq p x (iv R) := by
      have q1 : nn_eq p (iv R * g (25 * R + ld R)) 1 := nn_eq_iff.mpr (by rw [m5, Int.emod_eq_of_lt (by omega) (by omega)])
      have q2 : nn_eq p (x * g (25 * R + ld R)) 1 := nn_eq_iff.mpr (by rw [x3, Int.emod_eq_of_lt (by omega) (by omega)])
      have q3 := nn_eq_mul (nn_eq_rfl p x) (nn_eq_symm q1)
      have q4 := nn_eq_mul (nn_eq_rfl p (iv R)) q2
      rw [Int.mul_one] at q3 q4
      refine nn_eq_trans q3 ?_
      rw [show x * (iv R * g (25 * R + ld R)) = iv R * (x * g (25 * R + ld R)) from Int.mul_left_comm _ _ _]
      exact q4
    exact nn_eq_sub (he c hc) (nn_eq_mul (nn_eq_trans (nn_eq_mod p _) (nn_eq_mul (he (ld R) m1) ex)) (nn_eq_rfl p _))
theorem d_al_any {g v : Nat → Int} {rk : Int} {d3 d4 : pj_V} (hv : ∀ c, c < 25 → pj_rg (v c))
    (hQ : ∀ (fl : Int) (d2 : pj_V), ((fl = 0 ∧ ∀ c, c < 25 → v c = 0) ∨ (fl = 1 ∧ ∃ c, c < 25 ∧ v c ≠ 0)) → pj_WP X m_Mo_addLine 149 [.inr 0, .inl fl, d2, d3, d4] [] (w_l s g v rk) Q) :
    ∀ (m K : Nat) (fl k : Int), K + m = 25 → k = K → ((fl = 0 ∧ ∀ c, c < K → v c = 0) ∨ (fl = 1 ∧ ∃ c, c < 25 ∧ v c ≠ 0)) → pj_WP X m_Mo_addLine 118 [.inr 0, .inl fl, .inl k, d3, d4] [] (w_l s g v rk) Q := by
  intro m
  induction m with
  | zero =>
    intro K fl k hK hk h
    refine wp_b rfl (by omega) (fun c => ?_) (fun c => absurd c (by omega))
    exact hQ fl _ (h.imp (fun z => ⟨z.1, fun c hc => z.2 c (by omega)⟩) id)
  | succ m ih =>
    intro K fl k hK hk h
    have e1 : k.toNat = K := by omega
    obtain ⟨v1, v2⟩ := hv K (by omega)
    refine wp_b rfl (by omega) (fun c => absurd c (by omega)) (fun c => ?_)
    rcases h with ⟨e, hz⟩ | ⟨e, hnz⟩
    · refine wp_b rfl (by omega) (fun c => absurd e c) (fun c => ?_)
      refine wp_b rfl (by rw [e1]; omega) (fun c2 => ?_) (fun c2 => ?_)
      · rw [e1] at c2
        refine wp_g rfl (by omega) ?_
        refine ih (K + 1) _ _ (by omega) (by omega) (Or.inl ⟨rfl, fun q hq => ?_⟩)
        by_cases e9 : q = K
        · rw [e9]; exact c2
        · exact hz q (by omega)
      · rw [e1] at c2
        refine wp_g rfl (by omega) ?_
        exact ih (K + 1) _ _ (by omega) (by omega) (Or.inr ⟨rfl, K, by omega, c2⟩)
    · refine wp_b rfl (by omega) (fun c => ?_) (fun c => absurd c (by omega))
      refine wp_g rfl (by omega) ?_
      exact ih (K + 1) _ _ (by omega) (by omega) (Or.inr ⟨rfl, hnz⟩)
theorem d_al_put {g v : Nat → Int} {rk : Int} {M : Nat} {d3 d4 : pj_V} (hrk : rk = M) (hM : M < 25)
    (hQ : ∀ (g' : Nat → Int) (d2 : pj_V), (∀ q, g' q = if 25 * M ≤ q ∧ q < 25 * M + 25 then v (q - 25 * M) else g q) → pj_WP X m_Mo_addLine 187 [.inr 0, .inl 1, d2, d3, d4] [] (w_l s g' v rk) Q) :
    ∀ (m K : Nat) (g' : Nat → Int) (k : Int), K + m = 25 → k = K → (∀ q, g' q = if 25 * M ≤ q ∧ q < 25 * M + K then v (q - 25 * M) else g q) → pj_WP X m_Mo_addLine 151 [.inr 0, .inl 1, .inl k, d3, d4] [] (w_l s g' v rk) Q := by
  intro m
  induction m with
  | zero =>
    intro K g' k hK hk h
    refine wp_b rfl (by omega) (fun c => ?_) (fun c => absurd c (by omega))
    rw [show K = 25 by omega] at h
    exact hQ g' _ h
  | succ m ih =>
    intro K g' k hK hk h
    have e1 : k.toNat = K := by omega
    have e2 : (25 * rk + k).toNat = 25 * M + K := by omega
    refine wp_b rfl (by omega) (fun c => absurd c (by omega)) (fun c => ?_)
    refine wp_b rfl (by omega) (fun c => absurd c (by omega)) (fun c => ?_)
    refine wp_g rfl (by omega) ?_
    rw [e1, e2]
    refine ih (K + 1) _ _ (by omega) (by omega) (fun q => ?_)
    unfold pj_up
    by_cases e : q = 25 * M + K
    · rw [if_pos e, if_pos (by omega), show q - 25 * M = K by omega]
    · rw [if_neg e, h q]
      by_cases e3 : 25 * M ≤ q ∧ q < 25 * M + K
      · rw [if_pos e3, if_pos (by omega)]
      · rw [if_neg e3, if_neg (by omega)]
/-- addLine() -/
theorem d_addLine {g y : Nat → Int} {rk : Int} {M : Nat} {ld : Nat → Nat} {iv : Nat → Int} (hp : nn_p p) (h0 : s 0 = p) (hrk : rk = M) (hM : M ≤ 25) (hok : ll_ok p M g ld iv) (hy : ∀ c, c < 25 → 0 ≤ y c ∧ y c < p)
    (hlt : ∀ v : Nat → Int, (∀ c, c < 25 → 0 ≤ v c ∧ v c < p) → ln_eq p 25 v (ll_rd g ld iv M y) → (∃ c, c < 25 ∧ v c ≠ 0) → M < 25)
    (hQ0 : ∀ v : Nat → Int, ln_eq p 25 v (ll_rd g ld iv M y) → (∀ c, c < 25 → v c = 0) → Q none (w_l s g v rk))
    (hQ1 : ∀ v g' : Nat → Int, (∀ c, c < 25 → 0 ≤ v c ∧ v c < p) → ln_eq p 25 v (ll_rd g ld iv M y) → (∃ c, c < 25 ∧ v c ≠ 0) → (∀ q, g' q = if 25 * M ≤ q ∧ q < 25 * M + 25 then v (q - 25 * M) else g q) → Q none (w_l s g' v (rk + 1))) :
    pj_ci X m_Mo_addLine [.inr 0] (w_l s g y rk) Q := by
  obtain ⟨hp1, hp2, hp3⟩ := nn_p_pos hp
  refine wp_g rfl (by omega) ?_
  refine d_al_red (y := y) hp h0 hrk hM hok (fun v d1 d2 d3 d4 hv he => ?_) M 0 _ _ _ _ _ (by omega) (by omega) hy (ln_eq_rfl _)
  refine wp_g rfl (by omega) ?_
  refine d_al_any (fun c hc => by have := hv c hc; unfold pj_rg; omega) (fun fl d hfl => ?_) 25 0 _ _ (by omega) (by omega) (Or.inl ⟨rfl, fun c hc => by omega⟩)
  refine wp_g rfl (by omega) ?_
  rcases hfl with ⟨e, hz⟩ | ⟨e, hnz⟩
  · subst e
    refine wp_b rfl (by omega) (fun c => absurd c (by omega)) (fun c => ?_)
    refine wp_b rfl (by omega) (fun c => ?_) (fun c => absurd rfl c)
    refine wp_b rfl (by omega) (fun c => ?_) (fun c => absurd rfl c)
    refine wp_r rfl (by omega) ?_
    have h9 := hQ0 v he hz
    rw [← Int.add_zero rk] at h9
    exact h9
  · subst e
    refine d_al_put (M := M) hrk (hlt v hv he hnz) (fun g' d2 hg' => ?_) 25 0 _ _ (by omega) (by omega) (fun q => by rw [if_neg (by omega)])
    refine wp_b rfl (by omega) (fun c => absurd c (by omega)) (fun c => ?_)
    exact wp_r rfl (by omega) (hQ1 v g' hv he hnz hg')
end LINE2
