/-! THE MODEL: changes of the basis -/
abbrev o_f : pj_C := .inr (8, [v_u, v_u, v_u, v_u, v_u, v_u, v_u, v_u, v_u, v_u, v_u, v_u, v_u, v_u, v_u, v_u, v_u, v_u, v_u, v_u, v_u, v_u, v_u, v_u, v_u, v_u, .inr 1, .inr 2])
abbrev o_t : pj_C := .inr (8, [v_u, .inr 1, v_u, v_u, v_u, v_u, v_u, v_u, v_u, v_u, .inr 2, v_u, v_u, v_u, v_u, v_u, v_u, v_u, v_u, v_u, v_u, v_u, v_u, v_u, v_u, v_u, .inr 3, .inr 4])
abbrev o_tt : pj_C := .inr (8, [v_u, .inr 1, v_u, v_u, v_u, v_u, v_u, v_u, v_u, v_u, v_u, v_u, v_u, v_u, v_u, v_u, v_u, v_u, v_u, v_u, v_u, v_u, v_u, v_u, v_u, v_u, v_u, .inr 2])
abbrev o_t0 (d : Int) : pj_C := .inr (8, [.inl 0, .inr 1, .inr 2, .inl d, v_u, v_u, v_u, v_u, v_u, v_u, .inr 3, v_u, v_u, v_u, v_u, v_u, v_u, v_u, v_u, v_u, v_u, v_u, v_u, v_u, v_u, v_u, .inr 4, .inr 5])
abbrev w_f (f t : Nat → Int) : List pj_C := [o_f, c_A 25 f, c_A 125 t]
abbrev w_t (s r f t : Nat → Int) : List pj_C := [o_t, c_A 127 s, c_A 5 r, c_A 25 f, c_A 125 t]
abbrev w_tt (s t : Nat → Int) : List pj_C := [o_tt, c_A 127 s, c_A 125 t]
abbrev w_t0 (s h r f t : Nat → Int) (d : Int) : List pj_C := [o_t0 d, c_A 127 s, c_A 762 h, c_A 5 r, c_A 25 f, c_A 125 t]
section CHM
variable {X : pj_X} {Q : pj_Q} {p : Int} {N : Nat} {T : Nat → Nat → Nat → Int} {s : Nat → Int}
theorem d_bc_one {t : Nat → Int}
    (hQ : ∀ (f : Nat → Int) (d : pj_V), (∀ q, q < 25 → f q = if q / 5 = q % 5 then 1 else 0) → pj_WP X m_Mo_beginChange 34 [.inr 0, d] [] (w_f f t) Q) :
    ∀ (m K : Nat) (f : Nat → Int) (k : Int), K + m = 25 → k = K → (∀ q, q < K → f q = if q / 5 = q % 5 then 1 else 0) → pj_WP X m_Mo_beginChange 2 [.inr 0, .inl k] [] (w_f f t) Q := by
  intro m
  induction m with
  | zero =>
    intro K f k hK hk hf
    refine wp_b rfl (by omega) (fun c => ?_) (fun c => absurd c (by omega))
    exact hQ f _ (fun q hq => hf q (by omega))
  | succ m ih =>
    intro K f k hK hk hf
    have e1 : k.toNat = K := by omega
    have ed : k.tdiv 5 = ((K / 5 : Nat) : Int) := by rw [Int.tdiv_eq_ediv_of_nonneg (by omega)]; omega
    have em : k.tmod 5 = ((K % 5 : Nat) : Int) := by rw [Int.tmod_eq_emod_of_nonneg (by omega)]; omega
    have next : ∀ x : Int, x = (if K / 5 = K % 5 then 1 else 0) → ∀ j, j < K + 1 → pj_up f k.toNat x j = if j / 5 = j % 5 then 1 else 0 := fun x hx j hj => by
      unfold pj_up
      rw [e1]
      by_cases e : j = K
      · subst e
        rw [if_pos rfl, hx]
      · rw [if_neg e]
        exact hf j (by omega)
    refine wp_b rfl (by omega) (fun c => absurd c (by omega)) (fun c => ?_)
    refine wp_b rfl (by rw [ed, em]; omega) (fun c => ?_) (fun c => ?_)
    · rw [ed, em] at c
      refine wp_g rfl (by omega) ?_
      exact ih (K + 1) _ _ (by omega) (by omega) (next _ (by rw [if_neg (by omega)]))
    · rw [ed, em] at c
      refine wp_g rfl (by omega) ?_
      exact ih (K + 1) _ _ (by omega) (by omega) (next _ (by rw [if_pos (by omega)]))
theorem d_bc_two {f : Nat → Int}
    (hQ : ∀ (t : Nat → Int), (∀ q, q < 125 → t q = 0) → Q none (w_f f t)) :
    ∀ (m K : Nat) (t : Nat → Int) (k : Int), K + m = 125 → k = K → (∀ q, q < K → t q = 0) → pj_WP X m_Mo_beginChange 36 [.inr 0, .inl k] [] (w_f f t) Q := by
  intro m
  induction m with
  | zero =>
    intro K t k hK hk ht
    refine wp_b rfl (by omega) (fun c => ?_) (fun c => absurd c (by omega))
    exact wp_r rfl (by omega) (hQ t (fun q hq => ht q (by omega)))
  | succ m ih =>
    intro K t k hK hk ht
    refine wp_b rfl (by omega) (fun c => absurd c (by omega)) (fun c => ?_)
    refine wp_g rfl (by omega) ?_
    refine ih (K + 1) _ _ (by omega) (by omega) (fun q hq => ?_)
    unfold pj_up
    rw [show k.toNat = K by omega]
    by_cases e : q = K
    · rw [if_pos e]
    · rw [if_neg e]
      exact ht q (by omega)
/-- beginChange() -/
theorem d_beginChange {f t : Nat → Int} (hQ : ∀ (f t : Nat → Int), (∀ q, q < 25 → f q = if q / 5 = q % 5 then 1 else 0) → (∀ q, q < 125 → t q = 0) → Q none (w_f f t)) : pj_ci X m_Mo_beginChange [.inr 0] (w_f f t) Q := by
  refine wp_g rfl (by omega) ?_
  refine d_bc_one (fun f1 d hf2 => ?_) 25 0 _ _ (by omega) (by omega) (fun q hq => by omega)
  refine wp_g rfl (by omega) ?_
  exact d_bc_two (fun t ht => hQ _ t hf2 ht) 125 0 _ _ (by omega) (by omega) (fun q hq => by omega)
/-- the brackets of the new vectors in the old coordinates -/
def mt_T (p : Int) (N : Nat) (T : Nat → Nat → Nat → Int) (f : Nat → Int) (a b k : Nat) : Int := if a < N ∧ b < N then tt_bk p N T (fun i => f (5 * a + i)) (fun i => f (5 * b + i)) k else 0
theorem d_mt_copy {r f t0 : Nat → Int} {a b : Int} {A B : Nat} (ha : a = A) (hb : b = B) (hA : A < 5) (hB : B < 5)
    (hQ : ∀ (t : Nat → Int) (d : pj_V), (∀ q, t q = if 5 * (5 * A + B) ≤ q ∧ q < 5 * (5 * A + B) + 5 then r (q - 5 * (5 * A + B)) else t0 q) → pj_WP X m_Mo_makeTable 75 [.inr 0, .inl a, .inl b, d] [] (w_t s r f t) Q) :
    ∀ (m K : Nat) (t : Nat → Int) (k : Int), K + m = 5 → k = K → (∀ q, t q = if 5 * (5 * A + B) ≤ q ∧ q < 5 * (5 * A + B) + K then r (q - 5 * (5 * A + B)) else t0 q) → pj_WP X m_Mo_makeTable 44 [.inr 0, .inl a, .inl b, .inl k] [] (w_t s r f t) Q := by
  intro m
  induction m with
  | zero =>
    intro K t k hK hk ht
    refine wp_b rfl (by omega) (fun c => ?_) (fun c => absurd c (by omega))
    rw [show K = 5 by omega] at ht
    exact hQ t _ ht
  | succ m ih =>
    intro K t k hK hk ht
    have e1 : k.toNat = K := by omega
    have e2 : (5 * (5 * a + b) + k).toNat = 5 * (5 * A + B) + K := by omega
    refine wp_b rfl (by omega) (fun c => absurd c (by omega)) (fun c => ?_)
    refine wp_g rfl (by omega) ?_
    rw [e1, e2]
    refine ih (K + 1) _ _ (by omega) (by omega) (fun q => ?_)
    unfold pj_up
    by_cases e : q = 5 * (5 * A + B) + K
    · rw [if_pos e, if_pos (by omega), show q - 5 * (5 * A + B) = K by omega]
    · rw [if_neg e, ht q]
      by_cases e3 : 5 * (5 * A + B) ≤ q ∧ q < 5 * (5 * A + B) + K
      · rw [if_pos e3, if_pos (by omega)]
      · rw [if_neg e3, if_neg (by omega)]
/-- the pairs that are done -/
def mt_in (p : Int) (N : Nat) (T : Nat → Nat → Nat → Int) (f : Nat → Int) (A B : Nat) (t : Nat → Int) : Prop := ∀ a b k, a < 5 → b < 5 → k < 5 → t (5 * (5 * a + b) + k) = if a < A ∨ (a = A ∧ b < B) then mt_T p N T f a b k else 0
theorem d_mt_in (ht : tt_ok p N T) (hs : st_m p N T s) {f : Nat → Int} {a : Int} {A : Nat} (ha : a = A) (hA : A < N) (hf : ∀ x y, x < N → y < N → 0 ≤ f (5 * x + y) ∧ f (5 * x + y) < p)
    (hQ : ∀ (r t : Nat → Int) (d2 d3 : pj_V), mt_in p N T f (A + 1) 0 t → pj_WP X m_Mo_makeTable 81 [.inr 0, .inl a, d2, d3] [] (w_t s r f t) Q) :
    ∀ (m B : Nat) (r t : Nat → Int) (b : Int) (d3 : pj_V), B + m = N → b = B → mt_in p N T f A B t → pj_WP X m_Mo_makeTable 14 [.inr 0, .inl a, .inl b, d3] [] (w_t s r f t) Q := by
  obtain ⟨hp, h1N, hN, hT, -⟩ := id ht
  have h1' : s (Int.toNat 1) = (N : Int) := hs.2.1
  intro m
  induction m with
  | zero =>
    intro B r t b d3 hB hb hin
    refine wp_b rfl (by omega) (fun c => ?_) (fun c => absurd c (by omega))
    refine hQ r t _ _ (fun x y k hx hy hk => ?_)
    rw [hin x y k hx hy hk]
    by_cases e : x < A ∨ (x = A ∧ y < B)
    · rw [if_pos e, if_pos (by omega)]
    · rw [if_neg e]
      by_cases e2 : x < A + 1 ∨ (x = A + 1 ∧ y < 0)
      · rw [if_pos e2]
        unfold mt_T
        rw [if_neg (by omega)]
      · rw [if_neg e2]
  | succ m ih =>
    intro B r t b d3 hB hb hin
    refine wp_b rfl (by omega) (fun c => absurd c (by omega)) (fun c => ?_)
    refine wp_c rfl (by omega) [0, 1, 2, 3] (d_brS (lu := 25) (by omega) ht hs (FU := 5 * A) (FV := 5 * B) (by omega) (by omega) (by omega) (by omega) (fun k hk => hf A k hA hk) (fun k hk => hf B k (by omega) hk) ?_) rfl rfl rfl rfl
    refine wp_h (w_t s (fun k => if k < 5 then tt_bk p N T (fun i => f (5 * A + i)) (fun j => f (5 * B + j)) k else r k) f t) rfl ?_
    refine wp_g rfl (by omega) ?_
    refine d_mt_copy (A := A) (B := B) (t0 := t) ha hb (by omega) (by omega) (fun t2 d ht2 => ?_) 5 0 _ _ (by omega) (by omega) (fun q => by rw [if_neg (by omega)])
    refine wp_g rfl (by omega) ?_
    refine ih (B + 1) _ _ _ _ (by omega) (by omega) (fun x y k hx hy hk => ?_)
    rw [ht2]
    by_cases e : x = A ∧ y = B
    · obtain ⟨rfl, rfl⟩ := e
      rw [if_pos (show 5 * (5 * x + y) ≤ 5 * (5 * x + y) + k ∧ 5 * (5 * x + y) + k < 5 * (5 * x + y) + 5 by omega), show 5 * (5 * x + y) + k - 5 * (5 * x + y) = k by omega, if_pos (show x < x ∨ (x = x ∧ y < y + 1) from Or.inr ⟨rfl, by omega⟩)]
      unfold mt_T
      rw [if_pos hk, if_pos (show x < N ∧ y < N from ⟨hA, by omega⟩)]
    · rw [if_neg (by omega), hin x y k hx hy hk]
      by_cases e2 : x < A ∨ (x = A ∧ y < B)
      · rw [if_pos e2, if_pos (by omega)]
      · rw [if_neg e2, if_neg (by omega)]
theorem d_mt_out (ht : tt_ok p N T) (hs : st_m p N T s) {f : Nat → Int} (hf : ∀ x y, x < N → y < N → 0 ≤ f (5 * x + y) ∧ f (5 * x + y) < p)
    (hQ : ∀ (r t : Nat → Int), (∀ a b k, a < 5 → b < 5 → k < 5 → t (5 * (5 * a + b) + k) = mt_T p N T f a b k) → Q none (w_t s r f t)) :
    ∀ (m A : Nat) (r t : Nat → Int) (a : Int) (d2 d3 : pj_V), A + m = N → a = A → mt_in p N T f A 0 t → pj_WP X m_Mo_makeTable 2 [.inr 0, .inl a, d2, d3] [] (w_t s r f t) Q := by
  obtain ⟨hp, h1N, hN, hT, -⟩ := id ht
  have h1' : s (Int.toNat 1) = (N : Int) := hs.2.1
  intro m
  induction m with
  | zero =>
    intro A r t a d2 d3 hA ha hin
    refine wp_b rfl (by omega) (fun c => ?_) (fun c => absurd c (by omega))
    refine wp_r rfl (by omega) (hQ r t (fun x y k hx hy hk => ?_))
    rw [hin x y k hx hy hk]
    by_cases e : x < A ∨ (x = A ∧ y < 0)
    · rw [if_pos e]
    · rw [if_neg e]
      unfold mt_T
      rw [if_neg (by omega)]
  | succ m ih =>
    intro A r t a d2 d3 hA ha hin
    refine wp_b rfl (by omega) (fun c => absurd c (by omega)) (fun c => ?_)
    refine wp_g rfl (by omega) ?_
    refine d_mt_in ht hs ha (by omega) hf (fun r t d2 d3 hin2 => ?_) N 0 _ _ _ _ (by omega) (by omega) hin
    refine wp_g rfl (by omega) ?_
    exact ih (A + 1) _ _ _ _ _ (by omega) (by omega) hin2
/-- makeTable() -/
theorem d_makeTable (ht : tt_ok p N T) (hs : st_m p N T s) {r f t : Nat → Int} (hf : ∀ x y, x < N → y < N → 0 ≤ f (5 * x + y) ∧ f (5 * x + y) < p) (h0 : ∀ q, q < 125 → t q = 0)
    (hQ : ∀ (r t : Nat → Int), (∀ a b k, a < 5 → b < 5 → k < 5 → t (5 * (5 * a + b) + k) = mt_T p N T f a b k) → Q none (w_t s r f t)) : pj_ci X m_Mo_makeTable [.inr 0] (w_t s r f t) Q := by
  refine wp_g rfl (by omega) ?_
  exact d_mt_out ht hs hf hQ N 0 _ _ _ _ _ (by omega) (by omega) (fun a b k ha hb hk => by rw [if_neg (by omega)]; exact h0 _ (by omega))
theorem d_tk_loop {t : Nat → Int} (hQ : ∀ s' : Nat → Int, (∀ q, s' q = if 2 ≤ q ∧ q < 127 then t (q - 2) else s q) → Q none (w_tt s' t)) :
    ∀ (m K : Nat) (s' : Nat → Int) (k : Int), K + m = 125 → k = K → (∀ q, s' q = if 2 ≤ q ∧ q < 2 + K then t (q - 2) else s q) → pj_WP X m_Mo_takeTable 2 [.inr 0, .inl k] [] (w_tt s' t) Q := by
  intro m
  induction m with
  | zero =>
    intro K s' k hK hk hs
    refine wp_b rfl (by omega) (fun c => ?_) (fun c => absurd c (by omega))
    rw [show K = 125 by omega] at hs
    exact wp_r rfl (by omega) (hQ s' hs)
  | succ m ih =>
    intro K s' k hK hk hs
    have e1 : k.toNat = K := by omega
    have e2 : (2 + k).toNat = 2 + K := by omega
    refine wp_b rfl (by omega) (fun c => absurd c (by omega)) (fun c => ?_)
    refine wp_g rfl (by omega) ?_
    rw [e1, e2]
    refine ih (K + 1) _ _ (by omega) (by omega) (fun q => ?_)
    unfold pj_up
    by_cases e : q = 2 + K
    · rw [if_pos e, if_pos (by omega), show q - 2 = K by omega]
    · rw [if_neg e, hs q]
      by_cases e3 : 2 ≤ q ∧ q < 2 + K
      · rw [if_pos e3, if_pos (by omega)]
      · rw [if_neg e3, if_neg (by omega)]
/-- takeTable() -/
theorem d_takeTable {T' : Nat → Nat → Nat → Int} {t : Nat → Int} (s0 : s 0 = p) (s1 : s 1 = (N : Int)) (ht : ∀ a b k, a < 5 → b < 5 → k < 5 → t (5 * (5 * a + b) + k) = T' a b k) (hQ : ∀ s' : Nat → Int, st_m p N T' s' → Q none (w_tt s' t)) : pj_ci X m_Mo_takeTable [.inr 0] (w_tt s t) Q := by
  refine wp_g rfl (by omega) ?_
  refine d_tk_loop (s := s) (fun s' hs' => hQ s' ⟨by rw [hs' 0, if_neg (by omega)]; exact s0, by rw [hs' 1, if_neg (by omega)]; exact s1, fun a b k ha hb hk => ?_⟩) 125 0 _ _ (by omega) (by omega) (fun q => by rw [if_neg (by omega)])
  rw [hs', if_pos (by omega), show 2 + 5 * (5 * a + b) + k - 2 = 5 * (5 * a + b) + k by omega]
  exact ht a b k ha hb hk
/-! what the three changes make of a bracket's coordinates -/
theorem gs_u (x y : ln_V) {I k : Nat} (hI : I < N) (hk : k < N) : nn_sm N (fun q => x q * ch_u I y q k) = (if k = I then 0 else x k) + x I * y k := by
  have e : nn_sm N (fun q => x q * ch_u I y q k) = nn_sm N (fun q => if q = I then 0 else x q * ln_e q k) + nn_sm N (fun q => if q = I then x I * y k else 0) := by
    rw [← nn_sm_add]
    refine nn_sm_congr N (fun q _ => ?_)
    unfold ch_u
    by_cases h : q = I
    · rw [if_pos h, if_pos h, if_pos h, h, Int.zero_add]
    · rw [if_neg h, if_neg h, if_neg h, Int.add_zero]
  rw [e, nn_sm_one N I hI (fun q _ h => if_neg h), if_pos rfl, nn_sm_one N k hk (fun q _ h => by
    by_cases h2 : q = I
    · rw [if_pos h2]
    · rw [if_neg h2, show ln_e q k = 0 from if_neg (fun z => h z.symm), Int.mul_zero])]
  rw [show ln_e k k = 1 from if_pos rfl, Int.mul_one]
/-- the exchange of two places -/
def sx_s (I J k : Nat) : Nat := if k = I then J else if k = J then I else k
theorem gs_x (x : ln_V) {I J k : Nat} (hI : I < N) (hJ : J < N) (hne : I ≠ J) (hk : k < N) : nn_sm N (fun q => x q * ch_x I J q k) = x (sx_s I J k) := by
  have hs : sx_s I J k < N := by unfold sx_s; split; exact hJ; split; exact hI; exact hk
  rw [nn_sm_one N (sx_s I J k) hs (fun q _ h => ?_)]
  · have e : ch_x I J (sx_s I J k) k = 1 := by
      unfold ch_x sx_s ln_e
      by_cases h1 : k = I
      · simp [h1]
      · by_cases h2 : k = J
        · simp [h2, hne, Ne.symm hne]
        · simp [h1, h2]
    rw [e, Int.mul_one]
  · have e : ch_x I J q k = 0 := by
      unfold sx_s at h
      unfold ch_x ln_e
      by_cases h1 : k = I
      · rw [if_pos h1] at h
        rw [if_neg h]
        by_cases h2 : q = I
        · rw [if_pos h2, if_neg (by omega)]
        · rw [if_neg h2, if_neg (by omega)]
      · rw [if_neg h1] at h
        by_cases h2 : k = J
        · rw [if_pos h2] at h
          by_cases h3 : q = J
          · rw [if_pos h3, if_neg (by omega)]
          · rw [if_neg h3, if_neg h, if_neg (by omega)]
        · rw [if_neg h2] at h
          by_cases h3 : q = J
          · rw [if_pos h3, if_neg (by omega)]
          · rw [if_neg h3]
            by_cases h4 : q = I
            · rw [if_pos h4, if_neg (by omega)]
            · rw [if_neg h4, if_neg (by omega)]
    rw [e, Int.mul_zero]
theorem mt_rg (ht : tt_ok p N T) (f : Nat → Int) (a b k : Nat) : 0 ≤ mt_T p N T f a b k ∧ mt_T p N T f a b k < p := by
  have hp1 := (nn_p_pos ht.1).1
  unfold mt_T
  split
  · exact tt_bk_rg hp1 _ _ _
  · exact ⟨Int.le_refl 0, hp1⟩
theorem ch_add (ht : tt_ok p N T) {I J : Nat} {a : Int} {f : Nat → Int} (hI : I < N) (hJ : J < N) (hne : I ≠ J) (hf : ∀ x y, x < N → y < N → f (5 * x + y) = ch_u I (fun c => ln_e I c + a * ln_e J c) x y) (x y k : Nat) (hk : k < 5) :
    (if k = J then (mt_T p N T f x y J - a * mt_T p N T f x y I) % p else mt_T p N T f x y k) = ch_T p N T (ch_u I (fun c => ln_e I c + a * ln_e J c)) (ch_u I (fun c => ln_e I c + (-a) * ln_e J c)) x y k := by
  obtain ⟨hp, h1N, hN, hT, -⟩ := id ht
  have hp1 := (nn_p_pos hp).1
  by_cases hxy : x < N ∧ y < N
  · have em : ∀ q, mt_T p N T f x y q = tt_bk p N T (ch_u I (fun c => ln_e I c + a * ln_e J c) x) (ch_u I (fun c => ln_e I c + a * ln_e J c) y) q := fun q => by
      unfold mt_T
      rw [if_pos hxy]
      exact tt_bk_ext (fun i hi => hf x i hxy.1 hi) (fun i hi => hf y i hxy.2 hi) q
    rw [em, em, em]
    have hrg := fun q => tt_bk_rg (N := N) (T := T) hp1 (ch_u I (fun c => ln_e I c + a * ln_e J c) x) (ch_u I (fun c => ln_e I c + a * ln_e J c) y) q
    have hout : ∀ q, N ≤ q → tt_bk p N T (ch_u I (fun c => ln_e I c + a * ln_e J c) x) (ch_u I (fun c => ln_e I c + a * ln_e J c) y) q = 0 := fun q hq => tt_bk_out ht _ _ hq
    revert hrg hout
    unfold ch_T ch_v
    generalize tt_bk p N T (ch_u I (fun c => ln_e I c + a * ln_e J c) x) (ch_u I (fun c => ln_e I c + a * ln_e J c) y) = z
    intro hrg hout
    by_cases hkN : k < N
    · rw [if_pos (show x < N ∧ y < N ∧ k < N from ⟨hxy.1, hxy.2, hkN⟩), gs_u z _ hI hkN]
      unfold ln_e
      by_cases h1 : k = J
      · have hkI : ¬ k = I := by omega
        rw [if_pos h1, if_neg hkI, if_neg hkI, if_pos h1, Int.zero_add, Int.mul_one, Int.mul_neg, Int.mul_comm (z I) a, h1]
        rfl
      · rw [if_neg h1, if_neg h1, Int.mul_zero, Int.add_zero]
        by_cases h2 : k = I
        · rw [if_pos h2, if_pos h2, Int.mul_one, Int.zero_add, h2, Int.emod_eq_of_lt (hrg I).1 (hrg I).2]
        · rw [if_neg h2, if_neg h2, Int.mul_zero, Int.add_zero, Int.emod_eq_of_lt (hrg k).1 (hrg k).2]
    · rw [if_neg (show ¬ (x < N ∧ y < N ∧ k < N) from fun z => hkN z.2.2), if_neg (by omega), hout k (by omega)]
  · have em : ∀ q, mt_T p N T f x y q = 0 := fun q => by unfold mt_T; rw [if_neg hxy]
    rw [em, em, em]
    unfold ch_T
    rw [if_neg (show ¬ (x < N ∧ y < N ∧ k < N) from fun z => hxy ⟨z.1, z.2.1⟩), Int.mul_zero, Int.sub_zero, Int.zero_emod]
    split <;> rfl
theorem ch_scl (ht : tt_ok p N T) {I : Nat} {a b : Int} {f : Nat → Int} (hI : I < N) (hf : ∀ x y, x < N → y < N → f (5 * x + y) = ch_u I (fun c => a * ln_e I c) x y) (x y k : Nat) (hk : k < 5) :
    (if k = I then (mt_T p N T f x y I * b) % p else mt_T p N T f x y k) = ch_T p N T (ch_u I (fun c => a * ln_e I c)) (ch_u I (fun c => b * ln_e I c)) x y k := by
  obtain ⟨hp, h1N, hN, hT, -⟩ := id ht
  have hp1 := (nn_p_pos hp).1
  by_cases hxy : x < N ∧ y < N
  · have em : ∀ q, mt_T p N T f x y q = tt_bk p N T (ch_u I (fun c => a * ln_e I c) x) (ch_u I (fun c => a * ln_e I c) y) q := fun q => by
      unfold mt_T
      rw [if_pos hxy]
      exact tt_bk_ext (fun i hi => hf x i hxy.1 hi) (fun i hi => hf y i hxy.2 hi) q
    rw [em, em]
    have hrg := fun q => tt_bk_rg (N := N) (T := T) hp1 (ch_u I (fun c => a * ln_e I c) x) (ch_u I (fun c => a * ln_e I c) y) q
    have hout : ∀ q, N ≤ q → tt_bk p N T (ch_u I (fun c => a * ln_e I c) x) (ch_u I (fun c => a * ln_e I c) y) q = 0 := fun q hq => tt_bk_out ht _ _ hq
    revert hrg hout
    unfold ch_T ch_v
    generalize tt_bk p N T (ch_u I (fun c => a * ln_e I c) x) (ch_u I (fun c => a * ln_e I c) y) = z
    intro hrg hout
    by_cases hkN : k < N
    · rw [if_pos (show x < N ∧ y < N ∧ k < N from ⟨hxy.1, hxy.2, hkN⟩), gs_u z _ hI hkN]
      unfold ln_e
      by_cases h2 : k = I
      · rw [if_pos h2, if_pos h2, if_pos h2, Int.mul_one, Int.zero_add]
      · rw [if_neg h2, if_neg h2, if_neg h2, Int.mul_zero, Int.mul_zero, Int.add_zero, Int.emod_eq_of_lt (hrg k).1 (hrg k).2]
    · rw [if_neg (show ¬ (x < N ∧ y < N ∧ k < N) from fun z => hkN z.2.2), if_neg (by omega), hout k (by omega)]
  · have em : ∀ q, mt_T p N T f x y q = 0 := fun q => by unfold mt_T; rw [if_neg hxy]
    rw [em, em]
    unfold ch_T
    rw [if_neg (show ¬ (x < N ∧ y < N ∧ k < N) from fun z => hxy ⟨z.1, z.2.1⟩), Int.zero_mul, Int.zero_emod]
    split <;> rfl
theorem ch_swp (ht : tt_ok p N T) {I J : Nat} {f : Nat → Int} (hI : I < N) (hJ : J < N) (hne : I ≠ J) (hf : ∀ x y, x < N → y < N → f (5 * x + y) = ch_x I J x y) (x y k : Nat) (hk : k < 5) :
    mt_T p N T f x y (sx_s I J k) = ch_T p N T (ch_x I J) (ch_x I J) x y k := by
  obtain ⟨hp, h1N, hN, hT, -⟩ := id ht
  have hp1 := (nn_p_pos hp).1
  by_cases hxy : x < N ∧ y < N
  · have em : ∀ q, mt_T p N T f x y q = tt_bk p N T (ch_x I J x) (ch_x I J y) q := fun q => by
      unfold mt_T
      rw [if_pos hxy]
      exact tt_bk_ext (fun i hi => hf x i hxy.1 hi) (fun i hi => hf y i hxy.2 hi) q
    rw [em]
    have hrg := fun q => tt_bk_rg (N := N) (T := T) hp1 (ch_x I J x) (ch_x I J y) q
    have hout : ∀ q, N ≤ q → tt_bk p N T (ch_x I J x) (ch_x I J y) q = 0 := fun q hq => tt_bk_out ht _ _ hq
    revert hrg hout
    unfold ch_T ch_v
    generalize tt_bk p N T (ch_x I J x) (ch_x I J y) = z
    intro hrg hout
    by_cases hkN : k < N
    · rw [if_pos (show x < N ∧ y < N ∧ k < N from ⟨hxy.1, hxy.2, hkN⟩), gs_x z hI hJ hne hkN, Int.emod_eq_of_lt (hrg _).1 (hrg _).2]
    · rw [if_neg (show ¬ (x < N ∧ y < N ∧ k < N) from fun z => hkN z.2.2)]
      have e : sx_s I J k = k := by unfold sx_s; rw [if_neg (by omega), if_neg (by omega)]
      rw [e]
      exact hout k (by omega)
  · unfold mt_T ch_T
    rw [if_neg hxy, if_neg (fun z => hxy ⟨z.1, z.2.1⟩)]
theorem nn_inv_one (hp : nn_p p) {a y z : Int} (hy : 1 ≤ y ∧ y < p) (hz : 1 ≤ z ∧ z < p) (h1 : y * a % p = 1) (h2 : z * a % p = 1) : y = z := by
  have hp2 := (nn_p_pos hp).2.1
  have q1 : nn_eq p (y * a) 1 := nn_eq_iff.mpr (by rw [h1, Int.emod_eq_of_lt (by omega) (by omega)])
  have q2 : nn_eq p (z * a) 1 := nn_eq_iff.mpr (by rw [h2, Int.emod_eq_of_lt (by omega) (by omega)])
  have q3 := nn_eq_mul (nn_eq_rfl p y) (nn_eq_symm q2)
  have q4 := nn_eq_mul (nn_eq_rfl p z) q1
  rw [Int.mul_one] at q3 q4
  rw [show z * (y * a) = y * (z * a) from Int.mul_left_comm _ _ _] at q4
  exact nn_eq_red (nn_eq_trans q3 q4) ⟨by omega, hy.2⟩ ⟨by omega, hz.2⟩
theorem d_ab_loop {h r f t0 : Nat → Int} {d i j a : Int} {I J : Nat} (hp : nn_p p) (s0 : s 0 = p) (hi : i = I) (hj : j = J) (hI : I < 5) (hJ : J < 5) (hne : I ≠ J) (ha : 0 ≤ a ∧ a < p) (ht0 : ∀ q, q < 125 → 0 ≤ t0 q ∧ t0 q < p)
    (hQ : ∀ (t : Nat → Int) (e : pj_V), (∀ m k, m < 25 → k < 5 → t (5 * m + k) = if k = J then (t0 (5 * m + J) - a * t0 (5 * m + I)) % p else t0 (5 * m + k)) → pj_WP X m_Mo_addBasis 123 [.inr 0, .inl i, .inl j, .inl a, e] [] (w_t0 s h r f t d) Q) :
    ∀ (n M : Nat) (t : Nat → Int) (m : Int), M + n = 25 → m = M → (∀ m k, m < 25 → k < 5 → t (5 * m + k) = if k = J ∧ m < M then (t0 (5 * m + J) - a * t0 (5 * m + I)) % p else t0 (5 * m + k)) → pj_WP X m_Mo_addBasis 70 [.inr 0, .inl i, .inl j, .inl a, .inl m] [] (w_t0 s h r f t d) Q := by
  obtain ⟨hp1, hp2, hp3⟩ := nn_p_pos hp
  intro n
  induction n with
  | zero =>
    intro M t m hM hm ht
    refine wp_b rfl (by omega) (fun c => ?_) (fun c => absurd c (by omega))
    refine hQ t _ (fun m k hm hk => ?_)
    rw [ht m k hm hk]
    by_cases e : k = J
    · rw [if_pos ⟨e, by omega⟩, if_pos e]
    · rw [if_neg (fun z => e z.1), if_neg e]
  | succ n ih =>
    intro M t m hM hm ht
    have e1 : (5 * m + j).toNat = 5 * M + J := by omega
    have e2 : (5 * m + i).toNat = 5 * M + I := by omega
    have e3 : t (5 * M + J) = t0 (5 * M + J) := by rw [ht M J (by omega) hJ, if_neg (by omega)]
    have e4 : t (5 * M + I) = t0 (5 * M + I) := by rw [ht M I (by omega) hI, if_neg (by omega)]
    have r1 := ht0 (5 * M + J) (by omega)
    have r2 := nn_f7 hp ha (ht0 (5 * M + I) (by omega))
    refine wp_b rfl (by omega) (fun c => absurd c (by omega)) (fun c => ?_)
    refine wp_c rfl (by omega) [0, 1] (d_mod hp s0 (by rw [e1, e2, e3, e4]; unfold pj_rg; omega) ?_) rfl rfl rfl rfl
    rw [e1, e2, e3, e4]
    refine wp_h (w_t0 s h r f t d) rfl ?_
    refine wp_g rfl (by omega) ?_
    rw [e1]
    refine ih (M + 1) _ _ (by omega) (by omega) (fun q k hq hk => ?_)
    unfold pj_up
    by_cases e : 5 * q + k = 5 * M + J
    · have x1 : q = M := by omega
      have x2 : k = J := by omega
      subst x1 x2
      rw [if_pos rfl, if_pos ⟨rfl, by omega⟩]
    · rw [if_neg e, ht q k hq hk]
      by_cases e9 : k = J ∧ q < M
      · rw [if_pos e9, if_pos ⟨e9.1, by omega⟩]
      · rw [if_neg e9, if_neg (by omega)]
theorem fr_id {f : Nat → Int} (hf : ∀ q, q < 25 → f q = if q / 5 = q % 5 then 1 else 0) {x y : Nat} (hx : x < 5) (hy : y < 5) : f (5 * x + y) = ln_e x y := by
  rw [hf _ (by omega)]
  unfold ln_e
  by_cases e : y = x
  · rw [if_pos (by omega), if_pos e]
  · rw [if_neg (by omega), if_neg e]
theorem ch_add_rg (hp : nn_p p) {a : Int} (ha : 0 ≤ a ∧ a < p) {I J : Nat} (hne : I ≠ J) (x y : Nat) : 0 ≤ ch_u I (fun c => ln_e I c + a * ln_e J c) x y ∧ ch_u I (fun c => ln_e I c + a * ln_e J c) x y < p := by
  have hp2 := (nn_p_pos hp).2.1
  unfold ch_u
  by_cases e : x = I
  · rw [if_pos e]
    show 0 ≤ (if y = I then (1 : Int) else 0) + a * (if y = J then (1 : Int) else 0) ∧ (if y = I then (1 : Int) else 0) + a * (if y = J then (1 : Int) else 0) < p
    by_cases e1 : y = I
    · rw [if_pos e1, if_neg (by omega), Int.mul_zero]
      omega
    · rw [if_neg e1]
      by_cases e2 : y = J
      · rw [if_pos e2, Int.mul_one]
        omega
      · rw [if_neg e2, Int.mul_zero]
        omega
  · rw [if_neg e]
    show 0 ≤ (if y = x then (1 : Int) else 0) ∧ (if y = x then (1 : Int) else 0) < p
    split <;> omega
set_option maxHeartbeats 1000000 in
/-- addBasis(i, j, c) -/
theorem d_addBasis (ht : tt_ok p N T) (hs : st_m p N T s) {h r f t : Nat → Int} {d i j a : Int} {D : Nat} (hd : d = D) (hD : D ≤ 6) (hi : pj_rg i) (hj : pj_rg j) (ha : pj_rg a)
    (h0 : ¬ ((0 ≤ i ∧ i < N) ∧ (0 ≤ j ∧ j < N) ∧ i ≠ j ∧ 1 ≤ a ∧ a < p) → Q (some (.inl (-1))) (w_t0 s h r f t d))
    (h1 : ∀ (I J : Nat) (s' h' r f t : Nat → Int), i = I → j = J → I < N → J < N → I ≠ J → 1 ≤ a → a < p → kp_is D s h h' → st_m p N (ch_T p N T (ch_u I (fun c => ln_e I c + a * ln_e J c)) (ch_u I (fun c => ln_e I c + (-a) * ln_e J c))) s' → Q (some (.inl (nn_nm p N (ch_T p N T (ch_u I (fun c => ln_e I c + a * ln_e J c)) (ch_u I (fun c => ln_e I c + (-a) * ln_e J c)) I J)))) (w_t0 s' h' r f t (if D = 6 then 6 else d + 1))) :
    pj_ci X m_Mo_addBasis [.inr 0, .inl i, .inl j, .inl a] (w_t0 s h r f t d) Q := by
  obtain ⟨hp, h1N, hN, hT, -⟩ := id ht
  obtain ⟨hp1, hp2, hp3⟩ := nn_p_pos hp
  obtain ⟨s0, s1, s2⟩ := id hs
  have s0' : s (Int.toNat 0) = p := s0
  obtain ⟨i1, i2⟩ := id hi
  obtain ⟨j1, j2⟩ := id hj
  refine wp_c rfl (by omega) [0, 1] (d_isIndex hN s1 hi (fun a1 a2 => ?_) (fun a => ?_)) rfl rfl rfl rfl
  · refine wp_h (w_t0 s h r f t d) rfl ?_
    refine wp_b rfl (by omega) (fun c => absurd c (by omega)) (fun _ => ?_)
    refine wp_c rfl (by omega) [0, 1] (d_isIndex hN s1 hj (fun b1 b2 => ?_) (fun b => ?_)) rfl rfl rfl rfl
    · refine wp_h (w_t0 s h r f t d) rfl ?_
      refine wp_b rfl (by omega) (fun c => absurd c (by omega)) (fun _ => ?_)
      refine wp_b rfl (by omega) (fun c => ?_) (fun hne => ?_)
      · exact wp_r rfl (by omega) (h0 (by omega))
      · refine wp_c rfl (by omega) [] (d_in ha (by unfold pj_rg; omega) (by rw [s0']; unfold pj_rg; omega) (fun c1 c2 => ?_) (fun c => ?_)) rfl rfl rfl rfl
        · rw [s0'] at c2
          refine wp_h (w_t0 s h r f t d) rfl ?_
          refine wp_b rfl (by omega) (fun _ => ?_) (fun c => absurd c (by omega))
          refine wp_c rfl (by omega) [0, 1, 2] (d_keep hd hD (fun h' hk => ?_)) rfl rfl rfl rfl
          refine wp_h (w_t0 s h' r f t (if D = 6 then 6 else d + 1)) rfl ?_
          refine wp_c rfl (by omega) [0, 4, 5] (d_beginChange (fun f1 t1 hf1 ht1 => ?_)) rfl rfl rfl rfl
          refine wp_h (w_t0 s h' r f1 t1 (if D = 6 then 6 else d + 1)) rfl ?_
          have hI5 : i.toNat < N := by omega
          have hJ5 : j.toNat < N := by omega
          have hIJ : i.toNat ≠ j.toNat := by omega
          have ef : ∀ x y, x < N → y < N → pj_up f1 (5 * i.toNat + j.toNat) a (5 * x + y) = ch_u i.toNat (fun c => ln_e i.toNat c + a * ln_e j.toNat c) x y := fun x y hx hy => by
            unfold pj_up ch_u
            by_cases e : x = i.toNat
            · rw [if_pos e]
              by_cases e2 : y = j.toNat
              · rw [if_pos (by omega)]
                unfold ln_e
                rw [if_neg (by omega), if_pos e2]
                omega
              · rw [if_neg (by omega), fr_id hf1 (by omega) (by omega), e]
                unfold ln_e
                rw [if_neg e2, Int.mul_zero, Int.add_zero]
            · rw [if_neg e, if_neg (by omega)]
              exact fr_id hf1 (by omega) (by omega)
          have eij : (5 * i + j).toNat = 5 * i.toNat + j.toNat := by omega
          refine wp_c rfl (by omega) [0, 1, 3, 4, 5] (d_makeTable ht hs (f := pj_up f1 (5 * i + j).toNat a) (fun x y hx hy => by
            rw [eij, ef x y hx hy]
            exact ch_add_rg hp ⟨by omega, by omega⟩ hIJ x y) ht1 (fun r2 t2 ht2 => ?_)) rfl rfl rfl rfl
          rw [eij] at ht2
          refine wp_h (w_t0 s h' r2 (pj_up f1 (5 * i + j).toNat a) t2 (if D = 6 then 6 else d + 1)) rfl ?_
          refine wp_g rfl (by omega) ?_
          have ht2r : ∀ q, q < 125 → 0 ≤ t2 q ∧ t2 q < p := fun q hq => by
            have e := ht2 (q / 25) (q / 5 % 5) (q % 5) (by omega) (by omega) (by omega)
            rw [show 5 * (5 * (q / 25) + q / 5 % 5) + q % 5 = q by omega] at e
            rw [e]
            exact mt_rg ht _ _ _ _
          refine d_ab_loop (I := i.toNat) (J := j.toNat) (t0 := t2) hp s0 (by omega) (by omega) (by omega) (by omega) hIJ ⟨by omega, by omega⟩ ht2r (fun t3 e3 ht3 => ?_) 25 0 _ _ (by omega) (by omega) (fun m k _ _ => by rw [if_neg (by omega)])
          have hT' : ∀ x y k, x < 5 → y < 5 → k < 5 → t3 (5 * (5 * x + y) + k) = ch_T p N T (ch_u i.toNat (fun c => ln_e i.toNat c + a * ln_e j.toNat c)) (ch_u i.toNat (fun c => ln_e i.toNat c + (-a) * ln_e j.toNat c)) x y k := fun x y k hx hy hk => by
            rw [ht3 (5 * x + y) k (by omega) hk, ht2 x y _ hx hy (by omega), ht2 x y _ hx hy (by omega), ht2 x y _ hx hy hk]
            exact ch_add ht hI5 hJ5 hIJ ef x y k hk
          refine wp_c rfl (by omega) [0, 1, 5] (d_takeTable s0 s1 hT' (fun s' hs' => ?_)) rfl rfl rfl rfl
          refine wp_h (w_t0 s' h' r2 (pj_up f1 (5 * i + j).toNat a) t3 (if D = 6 then 6 else d + 1)) rfl ?_
          refine wp_c rfl (by omega) [] (d_at ?_) rfl rfl rfl rfl
          refine wp_h (w_t0 s' h' r2 (pj_up f1 (5 * i + j).toNat a) t3 (if D = 6 then 6 else d + 1)) rfl ?_
          refine wp_c rfl (by omega) [0, 1] (d_numberS (F := 2 + 5 * (5 * i.toNat + j.toNat)) hN hs'.1 hs'.2.1 (by omega) (by omega) ?_) rfl rfl rfl rfl
          have en : nn_nm p N (fun k => s' (2 + 5 * (5 * i.toNat + j.toNat) + k)) = nn_nm p N (ch_T p N T (ch_u i.toNat (fun c => ln_e i.toNat c + a * ln_e j.toNat c)) (ch_u i.toNat (fun c => ln_e i.toNat c + (-a) * ln_e j.toNat c)) i.toNat j.toNat) := nn_nm_congr N (fun k hk => hs'.2.2 _ _ k (by omega) (by omega) (by omega))
          rw [en]
          exact wp_r rfl (by omega) (h1 i.toNat j.toNat s' h' _ _ _ (by omega) (by omega) hI5 hJ5 hIJ c1 (by omega) hk hs')
        · rw [s0'] at c
          refine wp_b rfl (by omega) (fun c => absurd rfl c) (fun _ => ?_)
          exact wp_r rfl (by omega) (h0 (by omega))
    · refine wp_h (w_t0 s h r f t d) rfl ?_
      refine wp_b rfl (by omega) (fun _ => ?_) (fun c => absurd rfl c)
      exact wp_r rfl (by omega) (h0 (by omega))
  · refine wp_h (w_t0 s h r f t d) rfl ?_
    refine wp_b rfl (by omega) (fun _ => ?_) (fun c => absurd rfl c)
    exact wp_r rfl (by omega) (h0 (by omega))
end CHM
