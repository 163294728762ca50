/-! THE MODEL: makeLine, derivationDimension -/
abbrev o_ml : pj_C := .inr (8, [v_u, .inr 1, v_u, v_u, v_u, v_u, v_u, v_u, v_u, v_u, v_u, v_u, v_u, v_u, v_u, v_u, v_u, v_u, v_u, v_u, v_u, v_u, v_u, v_u, v_u, .inr 2, v_u, v_u])
abbrev o_v0 (rk : Int) : pj_C := .inr (8, [.inl 0, .inr 1, v_u, v_u, v_u, v_u, v_u, v_u, v_u, v_u, v_u, v_u, v_u, v_u, v_u, v_u, v_u, v_u, v_u, v_u, v_u, v_u, v_u, .inr 2, .inl rk, .inr 3, v_u, v_u])
abbrev o_v1 : pj_C := .inr (8, [.inl 0, .inr 1, v_u, v_u, v_u, v_u, v_u, v_u, v_u, v_u, v_u, v_u, v_u, v_u, v_u, v_u, v_u, v_u, v_u, v_u, v_u, v_u, v_u, .inr 2, v_u, .inr 3, v_u, v_u])
abbrev w_ml (s v : Nat → Int) : List pj_C := [o_ml, c_A 127 s, c_A 25 v]
abbrev w_v0 (s g v : Nat → Int) (rk : Int) : List pj_C := [o_v0 rk, c_A 127 s, c_A 625 g, c_A 25 v]
section ML
variable {X : pj_X} {Q : pj_Q} {p : Int} {N : Nat} {T : Nat → Nat → Nat → Int} {s : Nat → Int}
/-- the equation in the model's columns, its first A terms -/
def ml_p (T : Nat → Nat → Nat → Int) (i j k A c : Nat) : Int := nn_sm A (fun m => ((if c = 5 * k + m then T i j m else 0) + (if c = 5 * m + i then -(T m j k) else 0)) + (if c = 5 * m + j then -(T i m k) else 0))
def ml_e (p : Int) (N : Nat) (T : Nat → Nat → Nat → Int) (i j k c : Nat) : Int := ml_p T i j k N c % p
theorem ml_p_rg (ht : tt_ok p N T) (i j k c : Nat) : ∀ A : Nat, -(14 * (A : Int)) ≤ ml_p T i j k A c ∧ ml_p T i j k A c ≤ 7 * (A : Int)
  | 0 => ⟨Int.le_refl 0, Int.le_refl 0⟩
  | A + 1 => by
    obtain ⟨hp, h1N, hN, hT, -⟩ := id ht
    have hp3 := (nn_p_pos hp).2.2
    have h := ml_p_rg ht i j k c A
    have a := hT i j A
    have b := hT A j k
    have d := hT i A k
    show -(14 * ((A + 1 : Nat) : Int)) ≤ ml_p T i j k A c + (((if c = 5 * k + A then T i j A else 0) + (if c = 5 * A + i then -(T A j k) else 0)) + (if c = 5 * A + j then -(T i A k) else 0)) ∧ ml_p T i j k A c + (((if c = 5 * k + A then T i j A else 0) + (if c = 5 * A + i then -(T A j k) else 0)) + (if c = 5 * A + j then -(T i A k) else 0)) ≤ 7 * ((A + 1 : Nat) : Int)
    split <;> split <;> split <;> omega
theorem d_ml_zero {i j k : Int}
    (hQ : ∀ (v : Nat → Int) (d : pj_V), (∀ c, c < 25 → v c = 0) → pj_WP X m_Mo_makeLine 24 [.inr 0, .inl i, .inl j, .inl k, d] [] (w_ml s v) Q) :
    ∀ (m K : Nat) (v : Nat → Int) (e : Int), K + m = 25 → e = K → (∀ c, c < K → v c = 0) → pj_WP X m_Mo_makeLine 3 [.inr 0, .inl i, .inl j, .inl k, .inl e] [] (w_ml s v) Q := by
  intro m
  induction m with
  | zero =>
    intro K v e hK he hv
    refine wp_b rfl (by omega) (fun c => ?_) (fun c => absurd c (by omega))
    exact hQ v _ (fun c hc => hv c (by omega))
  | succ m ih =>
    intro K v e hK he hv
    refine wp_b rfl (by omega) (fun c => absurd c (by omega)) (fun c => ?_)
    refine wp_g rfl (by omega) ?_
    refine ih (K + 1) _ _ (by omega) (by omega) (fun c hc => ?_)
    unfold pj_up
    rw [show e.toNat = K by omega]
    by_cases e9 : c = K
    · rw [if_pos e9]
    · rw [if_neg e9]
      exact hv c (by omega)
set_option maxHeartbeats 1000000 in
theorem d_ml_sum (ht : tt_ok p N T) (hs : st_m p N T s) {i j k : Int} {I J K : Nat} (hi : i = I) (hj : j = J) (hk : k = K) (hI : I < N) (hJ : J < N) (hK : K < N)
    (hQ : ∀ (v : Nat → Int) (d : pj_V), (∀ c, c < 25 → v c = ml_p T I J K N c) → pj_WP X m_Mo_makeLine 125 [.inr 0, .inl i, .inl j, .inl k, d] [] (w_ml s v) Q) :
    ∀ (m M : Nat) (v : Nat → Int) (e : Int), M + m = N → e = M → (∀ c, c < 25 → v c = ml_p T I J K M c) → pj_WP X m_Mo_makeLine 27 [.inr 0, .inl i, .inl j, .inl k, .inl e] [] (w_ml s v) Q := by
  obtain ⟨hp, h1N, hN, hT, -⟩ := id ht
  obtain ⟨h0, h1, h2⟩ := id hs
  have h1' : s (Int.toNat 1) = (N : Int) := h1
  intro m
  induction m with
  | zero =>
    intro M v e hM he hv
    refine wp_b rfl (by omega) (fun c => ?_) (fun c => absurd c (by omega))
    rw [show M = N by omega] at hv
    exact hQ v _ hv
  | succ m ih =>
    intro M v e hM he hv
    have a1 : (5 * k + e).toNat = 5 * K + M := by omega
    have a2 : (5 * e + i).toNat = 5 * M + I := by omega
    have a3 : (5 * e + j).toNat = 5 * M + J := by omega
    have b1 : s (2 + 5 * (5 * i + j) + e).toNat = T I J M := by rw [show (2 + 5 * (5 * i + j) + e).toNat = 2 + 5 * (5 * I + J) + M by omega]; exact h2 I J M (by omega) (by omega) (by omega)
    have b2 : s (2 + 5 * (5 * e + j) + k).toNat = T M J K := by rw [show (2 + 5 * (5 * e + j) + k).toNat = 2 + 5 * (5 * M + J) + K by omega]; exact h2 M J K (by omega) (by omega) (by omega)
    have b3 : s (2 + 5 * (5 * i + e) + k).toNat = T I M K := by rw [show (2 + 5 * (5 * i + e) + k).toNat = 2 + 5 * (5 * I + M) + K by omega]; exact h2 I M K (by omega) (by omega) (by omega)
    refine wp_b rfl (by omega) (fun c => absurd c (by omega)) (fun c => ?_)
    refine wp_c rfl (by omega) [] (d_at ?_) rfl rfl rfl rfl
    refine wp_h (w_ml s v) rfl ?_
    refine wp_c rfl (by omega) [] (d_at ?_) rfl rfl rfl rfl
    refine wp_h (w_ml s (pj_up v (5 * k + e).toNat (v (5 * k + e).toNat + s (2 + 5 * (5 * i + j) + e).toNat))) rfl ?_
    rw [a1, b1]
    refine wp_c rfl (by omega) [] (d_at ?_) rfl rfl rfl rfl
    refine wp_h (w_ml s (pj_up (pj_up v (5 * K + M) (v (5 * K + M) + T I J M)) (5 * e + i).toNat (pj_up v (5 * K + M) (v (5 * K + M) + T I J M) (5 * e + i).toNat - s (2 + 5 * (5 * e + j) + k).toNat))) rfl ?_
    rw [a2, b2]
    refine wp_g rfl (by omega) ?_
    rw [a3, b3]
    refine ih (M + 1) _ _ (by omega) (by omega) (fun c hc => ?_)
    have hvc := hv c hc
    have q1 : pj_up v (5 * K + M) (v (5 * K + M) + T I J M) c = v c + (if c = 5 * K + M then T I J M else 0) := by
      unfold pj_up
      by_cases e9 : c = 5 * K + M
      · rw [if_pos e9, if_pos e9, e9]
      · rw [if_neg e9, if_neg e9, Int.add_zero]
    have q2 : ∀ (v1 : Nat → Int) (x : Int) (t : Nat), pj_up v1 t (v1 t - x) c = v1 c + (if c = t then -x else 0) := fun v1 x t => by
      unfold pj_up
      by_cases e9 : c = t
      · rw [if_pos e9, if_pos e9, e9]
        omega
      · rw [if_neg e9, if_neg e9, Int.add_zero]
    rw [q2, q2, q1, hvc]
    show _ = ml_p T I J K M c + (((if c = 5 * K + M then T I J M else 0) + (if c = 5 * M + I then -(T M J K) else 0)) + (if c = 5 * M + J then -(T I M K) else 0))
    omega
theorem d_ml_mod (ht : tt_ok p N T) (h0 : s 0 = p) {i j k : Int} {I J K : Nat}
    (hQ : ∀ (v : Nat → Int), (∀ c, c < 25 → v c = ml_e p N T I J K c) → Q none (w_ml s v)) :
    ∀ (m M : Nat) (v : Nat → Int) (e : Int), M + m = 25 → e = M → (∀ c, c < 25 → v c = if c < M then ml_e p N T I J K c else ml_p T I J K N c) → pj_WP X m_Mo_makeLine 128 [.inr 0, .inl i, .inl j, .inl k, .inl e] [] (w_ml s v) Q := by
  obtain ⟨hp, h1N, hN, hT, -⟩ := id ht
  intro m
  induction m with
  | zero =>
    intro M v e hM he hv
    refine wp_b rfl (by omega) (fun c => ?_) (fun c => absurd c (by omega))
    refine wp_r rfl (by omega) (hQ v (fun c hc => ?_))
    rw [hv c hc, if_pos (by omega)]
  | succ m ih =>
    intro M v e hM he hv
    have e1 : e.toNat = M := by omega
    have hr := ml_p_rg ht I J K M N
    have e2 : v M = ml_p T I J K N M := by rw [hv M (by omega), if_neg (by omega)]
    refine wp_b rfl (by omega) (fun c => absurd c (by omega)) (fun c => ?_)
    refine wp_c rfl (by omega) [0, 1] (d_mod hp h0 (by rw [e1, e2]; unfold pj_rg; omega) ?_) rfl rfl rfl rfl
    rw [e1, e2]
    refine wp_h (w_ml s v) rfl ?_
    refine wp_g rfl (by omega) ?_
    rw [e1]
    refine ih (M + 1) _ _ (by omega) (by omega) (fun c hc => ?_)
    unfold pj_up
    by_cases e9 : c = M
    · subst e9
      rw [if_pos rfl, if_pos (by omega)]
      rfl
    · rw [if_neg e9, hv c hc]
      by_cases e8 : c < M
      · rw [if_pos e8, if_pos (by omega)]
      · rw [if_neg e8, if_neg (by omega)]
/-- makeLine(i, j, k) -/
theorem d_makeLine (ht : tt_ok p N T) (hs : st_m p N T s) {i j k : Int} {I J K : Nat} {v : Nat → Int} (hi : i = I) (hj : j = J) (hk : k = K) (hI : I < N) (hJ : J < N) (hK : K < N)
    (hQ : ∀ (v : Nat → Int), (∀ c, c < 25 → v c = ml_e p N T I J K c) → Q none (w_ml s v)) : pj_ci X m_Mo_makeLine [.inr 0, .inl i, .inl j, .inl k] (w_ml s v) Q := by
  refine wp_g rfl (by omega) ?_
  refine d_ml_zero (fun v1 d hv1 => ?_) 25 0 _ _ (by omega) (by omega) (fun c hc => by omega)
  refine wp_g rfl (by omega) ?_
  refine d_ml_sum ht hs hi hj hk hI hJ hK (fun v2 d2 hv2 => ?_) N 0 _ _ (by omega) (by omega) (fun c hc => by rw [hv1 c hc]; rfl)
  refine wp_g rfl (by omega) ?_
  exact d_ml_mod ht hs.1 hQ 25 0 _ _ (by omega) (by omega) (fun c hc => by rw [hv2 c hc, if_neg (by omega)])
/-! the two ways to number the entries -/
def dl_s (N : Nat) (y : ln_V) : ln_V := fun c => y (5 * (c / N) + c % N)
def dl_h (N : Nat) (x : ln_V) : ln_V := fun c => if c / 5 < N ∧ c % 5 < N then x (N * (c / 5) + c % 5) else 0
theorem dl_ix (h1 : 1 ≤ N) {c : Nat} (hc : c < N * N) : c / N < N ∧ c % N < N ∧ N * (c / N) + c % N = c := ⟨Nat.div_lt_of_lt_mul hc, Nat.mod_lt _ (by omega), Nat.div_add_mod c N⟩
theorem dl_ix2 (h1 : 1 ≤ N) {a b : Nat} (ha : a < N) (hb : b < N) : N * a + b < N * N ∧ (N * a + b) / N = a ∧ (N * a + b) % N = b := by
  refine ⟨?_, ?_, ?_⟩
  · have h2 : N * (a + 1) ≤ N * N := Nat.mul_le_mul_left N (by omega)
    rw [Nat.mul_add] at h2
    omega
  · rw [Nat.mul_add_div (by omega), Nat.div_eq_of_lt hb, Nat.add_zero]
  · rw [Nat.mul_add_mod, Nat.mod_eq_of_lt hb]
theorem dl_s_sub (h1 : 1 ≤ N) (hN : N ≤ 5) {W : ln_P} (hW : ln_sub p (N * N) W) : ln_sub p 25 (fun y => W (dl_s N y)) := by
  refine ⟨hW.1, fun x y hx hy => hW.2.1 _ _ hx hy, fun a x hx => hW.2.2.1 a _ hx, fun x y e hx => hW.2.2.2 _ _ (fun c hc => ?_) hx⟩
  obtain ⟨a, b, -⟩ := dl_ix h1 hc
  exact e _ (by omega)
theorem dl_h_sub (h1 : 1 ≤ N) {W : ln_P} (hW : ln_sub p 25 W) : ln_sub p (N * N) (fun x => W (dl_h N x)) := by
  have e0 : dl_h N (fun _ => 0) = fun _ => 0 := funext fun c => by unfold dl_h; split <;> rfl
  refine ⟨by show W (dl_h N (fun _ => 0)); rw [e0]; exact hW.1, fun x y hx hy => hW.2.2.2 _ _ (fun c _ => ?_) (hW.2.1 _ _ hx hy), fun a x hx => hW.2.2.2 _ _ (fun c _ => ?_) (hW.2.2.1 a _ hx), fun x y e hx => hW.2.2.2 _ _ (fun c hc => ?_) hx⟩
  · show nn_eq p (dl_h N x c + dl_h N y c) (dl_h N (fun c => x c + y c) c)
    unfold dl_h
    by_cases h : c / 5 < N ∧ c % 5 < N
    · rw [if_pos h, if_pos h, if_pos h]
      exact nn_eq_rfl p _
    · rw [if_neg h, if_neg h, if_neg h]
      exact nn_eq_rfl p _
  · show nn_eq p (a * dl_h N x c) (dl_h N (fun c => a * x c) c)
    unfold dl_h
    by_cases h : c / 5 < N ∧ c % 5 < N
    · rw [if_pos h, if_pos h]
      exact nn_eq_rfl p _
    · rw [if_neg h, if_neg h, Int.mul_zero]
      exact nn_eq_rfl p _
  · unfold dl_h
    by_cases h : c / 5 < N ∧ c % 5 < N
    · rw [if_pos h, if_pos h]
      exact e _ (dl_ix2 h1 h.1 h.2).1
    · rw [if_neg h, if_neg h]
      exact nn_eq_rfl p _
/-- there and back -/
theorem dl_hs (h1 : 1 ≤ N) {y : ln_V} {c : Nat} (hz : ¬ (c / 5 < N ∧ c % 5 < N) → y c = 0) : dl_h N (dl_s N y) c = y c := by
  unfold dl_h dl_s
  by_cases h : c / 5 < N ∧ c % 5 < N
  · obtain ⟨-, e1, e2⟩ := dl_ix2 h1 h.1 h.2
    rw [if_pos h, e1, e2, show 5 * (c / 5) + c % 5 = c by omega]
  · rw [if_neg h, hz h]
theorem ml_dv (h1 : 1 ≤ N) (hN : N ≤ 5) {i j k : Nat} (hi : i < N) (hj : j < N) (hk : k < N) {c : Nat} (hc : c < N * N) : dl_s N (ml_e p N T i j k) c = dv_e p N T i j k c := by
  obtain ⟨ha, hb, hab⟩ := dl_ix h1 hc
  unfold dl_s ml_e dv_e ml_p dv_p
  refine congrArg (· % p) (nn_sm_congr N (fun m hm => ?_))
  have key : ∀ a b : Nat, a < N → b < N → (5 * (c / N) + c % N = 5 * a + b) = (c = a * N + b) := fun a b ha2 hb2 => propext ⟨fun h => by
    have e1 : c / N = a := by omega
    have e2 : c % N = b := by omega
    rw [← e1, ← e2, Nat.mul_comm]
    exact hab.symm, fun h => by
    obtain ⟨-, e1, e2⟩ := dl_ix2 h1 ha2 hb2
    rw [Nat.mul_comm] at h
    rw [← h] at e1 e2
    omega⟩
  simp only [key k m hk hm, key m i hm hi, key m j hm hj]
theorem ml_out (h1 : 1 ≤ N) (hN : N ≤ 5) {i j k : Nat} (hi : i < N) (hj : j < N) (hk : k < N) {c : Nat} (hc : ¬ (c / 5 < N ∧ c % 5 < N)) : ml_e p N T i j k c = 0 := by
  unfold ml_e ml_p
  rw [nn_sm_0 N (fun m hm => by rw [if_neg (by omega), if_neg (by omega), if_neg (by omega)]; rfl), Int.zero_emod]
theorem ll_out {g : Nat → Int} {ld : Nat → Nat} {iv : Nat → Int} {y : ln_V} {c : Nat} : ∀ m, (∀ r, r < m → g (25 * r + c) = 0) → y c = 0 → ll_rd g ld iv m y c = 0
  | 0, _, h => h
  | m + 1, hg, h => by
    show ll_rd g ld iv m y c - ll_rd g ld iv m y (ld m) * iv m * g (25 * m + c) = 0
    rw [ll_out m (fun r hr => hg r (by omega)) h, hg m (by omega), Int.mul_zero]
    rfl
/-- the lines that are done -/
def dd_g (p : Int) (N : Nat) (T : Nat → Nat → Nat → Int) (I J K : Nat) (W : ln_P) : Prop := ∀ i j k, i < N → j < N → k < N → (i < I ∨ (i = I ∧ (j < J ∨ (j = J ∧ k < K)))) → W (dv_e p N T i j k)
def dd_ok (p : Int) (N : Nat) (T : Nat → Nat → Nat → Int) (I J K M : Nat) (g : Nat → Int) : Prop := ∃ (ld : Nat → Nat) (iv : Nat → Int) (R : Nat → ln_V), ll_ok p M g ld iv ∧ (∀ r, r < M → ∀ c, c < 25 → ¬ (c / 5 < N ∧ c % 5 < N) → g (25 * r + c) = 0) ∧ ln_R p (N * N) R ∧ M = ln_ct R (N * N) ∧ (∀ W, ln_sub p (N * N) W → (ln_g (N * N) R W ↔ ∀ r, r < M → W (dl_s N (fun c => g (25 * r + c))))) ∧ (∀ W, ln_sub p (N * N) W → (ln_g (N * N) R W ↔ dd_g p N T I J K W))
theorem dd_eq {I J K I' J' K' M : Nat} {g : Nat → Int} (h : dd_ok p N T I J K M g) (e : ∀ i j k, i < N → j < N → k < N → ((i < I ∨ (i = I ∧ (j < J ∨ (j = J ∧ k < K)))) ↔ (i < I' ∨ (i = I' ∧ (j < J' ∨ (j = J' ∧ k < K')))))) : dd_ok p N T I' J' K' M g := by
  obtain ⟨ld, iv, R, a1, a2, a3, a4, a5, a6⟩ := h
  refine ⟨ld, iv, R, a1, a2, a3, a4, a5, fun W hW => (a6 W hW).trans ⟨fun z i j k h1 h2 h3 h4 => z i j k h1 h2 h3 ((e i j k h1 h2 h3).mpr h4), fun z i j k h1 h2 h3 h4 => z i j k h1 h2 h3 ((e i j k h1 h2 h3).mp h4)⟩⟩
theorem dd_g_next {I J K : Nat} {W : ln_P} (hI : I < N) (hJ : J < N) (hK : K < N) : dd_g p N T I J (K + 1) W ↔ dd_g p N T I J K W ∧ W (dv_e p N T I J K) := by
  constructor
  · intro h
    exact ⟨fun i j k h1 h2 h3 h4 => h i j k h1 h2 h3 (by omega), h I J K hI hJ hK (by omega)⟩
  · rintro ⟨h, h0⟩ i j k h1 h2 h3 h4
    by_cases e : i = I ∧ j = J ∧ k = K
    · rw [e.1, e.2.1, e.2.2]; exact h0
    · exact h i j k h1 h2 h3 (by omega)
set_option maxHeartbeats 1000000 in
/-- what is left of the line, if it isn't 0, is new -/
theorem dd_new (hp : nn_p p) (h1 : 1 ≤ N) (hN : N ≤ 5) {M : Nat} {g : Nat → Int} {ld : Nat → Nat} {iv : Nat → Int} {R : Nat → ln_V} (a1 : ll_ok p M g ld iv) (a2 : ∀ r, r < M → ∀ c, c < 25 → ¬ (c / 5 < N ∧ c % 5 < N) → g (25 * r + c) = 0) (a3 : ln_R p (N * N) R) (a4 : M = ln_ct R (N * N)) (a5 : ∀ W, ln_sub p (N * N) W → (ln_g (N * N) R W ↔ ∀ r, r < M → W (dl_s N (fun c => g (25 * r + c)))))
    {v y : ln_V} (hv : ∀ c, c < 25 → 0 ≤ v c ∧ v c < p) (he : ln_eq p 25 v (ll_rd g ld iv M y)) (hy : ∀ c, c < 25 → ¬ (c / 5 < N ∧ c % 5 < N) → y c = 0) (hne : ∃ c, c < 25 ∧ v c ≠ 0) :
    (∃ R', ln_join p (N * N) R (dl_s N v) R' true) ∧ M < 25 ∧ (∀ c, c < 25 → ¬ (c / 5 < N ∧ c % 5 < N) → v c = 0) ∧ (∀ r, r < M → v (ld r) = 0) := by
  obtain ⟨hp1, hp2, hp3⟩ := nn_p_pos hp
  have hld : ∀ r, r < M → ld r < 25 := fun r hr => (a1 r hr).1
  have hout : ∀ c, c < 25 → ¬ (c / 5 < N ∧ c % 5 < N) → v c = 0 := fun c hc hn => by
    have h9 := he c hc
    rw [ll_out M (fun r hr => a2 r hr c hc hn) (hy c hc hn)] at h9
    exact nn_eq_red h9 (hv c hc) ⟨by omega, by omega⟩
  have hat : ∀ r, r < M → v (ld r) = 0 := fun r hr => nn_eq_red (nn_eq_trans (he _ (hld r hr)) (ll_at (by omega) M a1 r hr)) (hv _ (hld r hr)) ⟨by omega, by omega⟩
  obtain ⟨R', b, hj⟩ := ln_join_ex a3 hp (dl_s N v)
  have hb : b = true := by
    refine hj.2.2.2.1.mpr (fun hin => ?_)
    have hs2 := dl_h_sub (p := p) h1 (ll_sub (p := p) (g := g) (iv := iv) hld)
    have hg : ln_g (N * N) R (fun x => ln_eq p 25 (ll_rd g ld iv M (dl_h N x)) (fun _ => 0)) := (a5 _ hs2).mpr (fun r hr => by
      refine ln_eq_trans (ll_congr (fun c hc => ?_) M hld) (ll_row (by omega) M a1 hr)
      rw [dl_hs h1 (y := fun c => g (25 * r + c)) (fun z => a2 r hr c hc z)]
      exact nn_eq_rfl p _)
    have h2 := ln_in_W hs2 hg hin
    have h3 : ln_eq p 25 (ll_rd g ld iv M v) (fun _ => 0) := ln_eq_trans (ll_congr (fun c hc => by rw [dl_hs h1 (fun z => hout c hc z)]; exact nn_eq_rfl p _) M hld) h2
    have h4 := ln_eq_trans (ln_eq_symm (ll_keep (g := g) (iv := iv) M hld (fun r hr => by rw [hat r hr]; exact nn_eq_rfl p 0))) h3
    obtain ⟨c, hc, hcn⟩ := hne
    exact hcn (nn_eq_red (h4 c hc) (hv c hc) ⟨by omega, by omega⟩)
  subst hb
  refine ⟨⟨R', hj⟩, ?_, hout, hat⟩
  have h5 := ln_ct_w R' (N * N)
  rw [hj.2.2.1, if_pos rfl] at h5
  have := dv_25 hN
  omega
set_option maxHeartbeats 1000000 in
theorem d_dd_step (ht : tt_ok p N T) (hs : st_m p N T s) {I J K M : Nat} {g y : Nat → Int} {rk : Int} (hI : I < N) (hJ : J < N) (hK : K < N) (hrk : rk = M) (hok : dd_ok p N T I J K M g) (hy : ∀ c, c < 25 → y c = ml_e p N T I J K c)
    (hQ : ∀ (M' : Nat) (g' v : Nat → Int), dd_ok p N T I J (K + 1) M' g' → Q none (w_l s g' v (M' : Int))) : pj_ci X m_Mo_addLine [.inr 0] (w_l s g y rk) Q := by
  obtain ⟨hp, h1, hN, hT, -⟩ := id ht
  obtain ⟨hp1, hp2, hp3⟩ := nn_p_pos hp
  obtain ⟨ld, iv, R, a1, a2, a3, a4, a5, a6⟩ := hok
  have h25 := dv_25 hN
  have hw := ln_ct_w R (N * N)
  have hyo : ∀ c, c < 25 → ¬ (c / 5 < N ∧ c % 5 < N) → y c = 0 := fun c hc hn => by rw [hy c hc]; exact ml_out h1 hN hI hJ hK hn
  have hyr : ∀ c, c < 25 → 0 ≤ y c ∧ y c < p := fun c hc => by rw [hy c hc]; exact ⟨Int.emod_nonneg _ (by omega), Int.emod_lt_of_pos _ hp1⟩
  have hyW : ∀ W, ln_sub p (N * N) W → (W (dl_s N y) ↔ W (dv_e p N T I J K)) := fun W hW => by
    have e : ln_eq p (N * N) (dl_s N y) (dv_e p N T I J K) := fun c hc => by
      obtain ⟨ha, hb, -⟩ := dl_ix h1 hc
      rw [← ml_dv h1 hN hI hJ hK hc]
      show nn_eq p (y (5 * (c / N) + c % N)) (ml_e p N T I J K (5 * (c / N) + c % N))
      rw [hy _ (by omega)]
      exact nn_eq_rfl p _
    exact ⟨hW.2.2.2 _ _ e, hW.2.2.2 _ _ (ln_eq_symm e)⟩
  have hvW : ∀ (v : ln_V), ln_eq p 25 v (ll_rd g ld iv M y) → ∀ W, ln_sub p (N * N) W → ln_g (N * N) R W → (W (dl_s N y) ↔ W (dl_s N v)) := fun v he W hW hg => by
    have hs2 := dl_s_sub h1 hN hW
    have h2 := ll_W hs2 (g := g) (ld := ld) (iv := iv) (y := y) M ((a5 W hW).mp hg)
    exact h2.trans ⟨hs2.2.2.2 _ _ (ln_eq_symm he), hs2.2.2.2 _ _ he⟩
  refine d_addLine (ld := ld) (iv := iv) hp hs.1 hrk (by omega) a1 hyr (fun v hv he hne => (dd_new hp h1 hN a1 a2 a3 a4 a5 hv he hyo hne).2.1) (fun v he hz => ?_) (fun v g' hv he hne hg' => ?_)
  · rw [hrk]
    refine hQ M g v ⟨ld, iv, R, a1, a2, a3, a4, a5, fun W hW => ?_⟩
    rw [dd_g_next hI hJ hK, ← a6 W hW]
    refine ⟨fun hg => ⟨hg, ?_⟩, fun z => z.1⟩
    refine (hyW W hW).mp ((hvW v he W hW hg).mpr ?_)
    exact hW.2.2.2 _ _ (fun c hc => by
      obtain ⟨ha, hb, -⟩ := dl_ix h1 hc
      show nn_eq p 0 (v (5 * (c / N) + c % N))
      rw [hz _ (by omega)]
      exact nn_eq_rfl p 0) hW.1
  · obtain ⟨⟨R', hj⟩, hM, hvo, hva⟩ := dd_new hp h1 hN a1 a2 a3 a4 a5 hv he hyo hne
    rcases ln_first (v := v) 25 with hz | ⟨L, hL, hL0, hLn⟩
    · obtain ⟨c, hc, hcn⟩ := hne
      exact absurd (hz c hc) hcn
    have hvL := hv L hL
    obtain ⟨x, -, -, hx⟩ := nn_inv_ex hp (v L) (by omega) hvL.2
    have eold : ∀ r c, r < M → c < 25 → g' (25 * r + c) = g (25 * r + c) := fun r c hr hc => by rw [hg', if_neg (by omega)]
    have enew : ∀ c, c < 25 → g' (25 * M + c) = v c := fun c hc => by rw [hg', if_pos (by omega), show 25 * M + c - 25 * M = c by omega]
    rw [show rk + 1 = ((M + 1 : Nat) : Int) by omega]
    refine hQ (M + 1) g' v ⟨fun r => if r = M then L else ld r, fun r => if r = M then x else iv r, R', fun r hr => ?_, fun r hr c hc hn => ?_, hj.1, ?_, fun W hW => ?_, fun W hW => ?_⟩
    · by_cases e : r = M
      · subst e
        simp only [if_true]
        refine ⟨hL, fun c hc => by rw [enew c hc]; exact hv c hc, fun c hc => by rw [enew c (by omega)]; exact hL0 c hc, by rw [enew L hL]; exact hLn, by rw [enew L hL]; exact hx, fun q hq => ?_⟩
        rw [if_neg (by omega), enew _ (a1 q hq).1]
        exact hva q hq
      · obtain ⟨m1, m2, m3, m4, m5, m6⟩ := a1 r (by omega)
        simp only [if_neg e]
        refine ⟨m1, fun c hc => by rw [eold r c (by omega) hc]; exact m2 c hc, fun c hc => by rw [eold r c (by omega) (by omega)]; exact m3 c hc, by rw [eold r _ (by omega) m1]; exact m4, by rw [eold r _ (by omega) m1]; exact m5, fun q hq => ?_⟩
        rw [if_neg (show ¬ q = M by omega), eold r _ (by omega) (a1 q (by omega)).1]
        exact m6 q hq
    · by_cases e : r = M
      · subst e
        rw [enew c hc]
        exact hvo c hc hn
      · rw [eold r c (by omega) hc]
        exact a2 r (by omega) c hc hn
    · rw [hj.2.2.1, if_pos rfl, ← a4]
    · have erow : ∀ r, r < M → (W (dl_s N (fun c => g' (25 * r + c))) ↔ W (dl_s N (fun c => g (25 * r + c)))) := fun r hr => by
        have e : ln_eq p (N * N) (dl_s N (fun c => g' (25 * r + c))) (dl_s N (fun c => g (25 * r + c))) := fun c hc => by
          obtain ⟨ha, hb, -⟩ := dl_ix h1 hc
          show nn_eq p (g' (25 * r + (5 * (c / N) + c % N))) (g (25 * r + (5 * (c / N) + c % N)))
          rw [eold r _ hr (by omega)]
          exact nn_eq_rfl p _
        exact ⟨hW.2.2.2 _ _ e, hW.2.2.2 _ _ (ln_eq_symm e)⟩
      have elast : W (dl_s N (fun c => g' (25 * M + c))) ↔ W (dl_s N v) := by
        have e : ln_eq p (N * N) (dl_s N (fun c => g' (25 * M + c))) (dl_s N v) := fun c hc => by
          obtain ⟨ha, hb, -⟩ := dl_ix h1 hc
          show nn_eq p (g' (25 * M + (5 * (c / N) + c % N))) (v (5 * (c / N) + c % N))
          rw [enew _ (by omega)]
          exact nn_eq_rfl p _
        exact ⟨hW.2.2.2 _ _ e, hW.2.2.2 _ _ (ln_eq_symm e)⟩
      rw [hj.2.1 W hW, a5 W hW]
      constructor
      · rintro ⟨z1, z2⟩ r hr
        by_cases e : r = M
        · rw [e]; exact elast.mpr z2
        · exact (erow r (by omega)).mpr (z1 r (by omega))
      · intro z
        exact ⟨fun r hr => (erow r hr).mp (z r (by omega)), elast.mp (z M (by omega))⟩
    · rw [hj.2.1 W hW, dd_g_next hI hJ hK]
      constructor
      · rintro ⟨z1, z2⟩
        exact ⟨(a6 W hW).mp z1, (hyW W hW).mp ((hvW v he W hW z1).mpr z2)⟩
      · rintro ⟨z1, z2⟩
        have z3 := (a6 W hW).mpr z1
        exact ⟨z3, (hvW v he W hW z3).mp ((hyW W hW).mpr z2)⟩
/-- the pairs i < j are enough -/
theorem dv_anti (ht : tt_ok p N T) (i j r c : Nat) : nn_eq p (dv_e p N T j i r c) (-(dv_e p N T i j r c)) := by
  obtain ⟨-, -, -, -, -, ha, -⟩ := id ht
  have h1 : nn_eq p (dv_p N T j i r N c) ((-1) * dv_p N T i j r N c) := by
    unfold dv_p
    rw [← nn_sm_mul]
    refine nn_eq_sm N (fun a _ => ?_)
    have e1 : nn_eq p (if c = r * N + a then T j i a else 0) (-(if c = r * N + a then T i j a else 0)) := by
      split
      · exact ha i j a
      · exact nn_eq_rfl p _
    have neg : ∀ x y : Int, nn_eq p x (-y) → nn_eq p (-x) y := fun x y h => by
      have h9 := nn_eq_mul (nn_eq_rfl p (-1)) h
      rw [Int.neg_mul, Int.neg_mul, Int.one_mul, Int.one_mul, Int.neg_neg] at h9
      exact h9
    have e2 : nn_eq p (if c = a * N + j then -(T a i r) else 0) (-(if c = a * N + j then -(T i a r) else 0)) := by
      split
      · rw [Int.neg_neg]
        exact neg _ _ (ha i a r)
      · exact nn_eq_rfl p _
    have e3 : nn_eq p (if c = a * N + i then -(T j a r) else 0) (-(if c = a * N + i then -(T a j r) else 0)) := by
      split
      · rw [Int.neg_neg]
        exact neg _ _ (ha a j r)
      · exact nn_eq_rfl p _
    have e4 := nn_eq_add (nn_eq_add e1 e2) e3
    refine nn_eq_trans e4 ?_
    generalize (if c = r * N + a then T i j a else 0) = x1
    generalize (if c = a * N + j then -(T i a r) else 0) = x2
    generalize (if c = a * N + i then -(T a j r) else 0) = x3
    rw [show -x1 + -x2 + -x3 = -1 * (x1 + x3 + x2) by omega]
    exact nn_eq_rfl p _
  refine nn_eq_trans (nn_eq_mod p _) (nn_eq_trans h1 ?_)
  have h2 := nn_eq_mul (nn_eq_rfl p (-1)) (nn_eq_symm (nn_eq_mod p (dv_p N T i j r N c)))
  rw [show -(dv_e p N T i j r c) = -1 * (dv_p N T i j r N c % p) from by unfold dv_e; omega]
  exact h2
theorem dv_self (ht : tt_ok p N T) (i r c : Nat) : nn_eq p (dv_e p N T i i r c) 0 := by
  obtain ⟨-, -, -, -, -, ha, hd⟩ := id ht
  refine nn_eq_trans (nn_eq_mod p _) ?_
  have h : nn_eq p (dv_p N T i i r N c) (nn_sm N (fun _ => 0)) := by
    refine nn_eq_sm N (fun a _ => ?_)
    have e1 : (if c = r * N + a then T i i a else 0) = 0 := by
      split
      · exact hd i a
      · rfl
    rw [e1, Int.zero_add]
    split
    · have h9 := nn_eq_add (nn_eq_rfl p (-(T a i r))) (nn_eq_mul (nn_eq_rfl p (-1)) (ha a i r))
      rw [Int.neg_mul, Int.neg_mul, Int.one_mul, Int.one_mul, Int.neg_neg, Int.add_left_neg] at h9
      exact h9
    · exact nn_eq_rfl p _
  rw [nn_sm_0 N (fun _ _ => rfl)] at h
  exact h
def an_de (p : Int) (N : Nat) (T : Nat → Nat → Nat → Int) (z : Int) : Prop := ∃ R, ln_R p (N * N) R ∧ (∀ K, ln_sub p (N * N) K → (ln_g (N * N) R K ↔ ∀ i j r, i < j → j < N → r < N → K (dv_e p N T i j r))) ∧ z = ((N * N : Nat) : Int) - (ln_ct R (N * N) : Int)
theorem dd_all (ht : tt_ok p N T) {K : ln_P} (hK : ln_sub p (N * N) K) : dd_g p N T N 0 0 K ↔ ∀ i j r, i < j → j < N → r < N → K (dv_e p N T i j r) := by
  constructor
  · intro h i j r h1 h2 h3
    exact h i j r (by omega) h2 h3 (by omega)
  · intro h i j r h1 h2 h3 _
    rcases Nat.lt_trichotomy i j with z | z | z
    · exact h i j r z h2 h3
    · subst z
      exact hK.2.2.2 _ _ (fun c _ => nn_eq_symm (dv_self ht i r c)) hK.1
    · exact hK.2.2.2 _ _ (fun c _ => nn_eq_symm (dv_anti ht j i r c)) (ln_sub_neg hK (h j i r z h1 h3))
theorem d_dd_in (ht : tt_ok p N T) (hs : st_m p N T s) {I J : Nat} {i j : Int} (hi : i = I) (hj : j = J) (hI : I < N) (hJ : J < N)
    (hQ : ∀ (M : Nat) (g v : Nat → Int) (d : pj_V), dd_ok p N T I J N M g → pj_WP X m_Mo_derivationDimension 63 [.inr 0, .inl i, .inl j, d] [] (w_v0 s g v (M : Int)) Q) :
    ∀ (m K M : Nat) (g v : Nat → Int) (k : Int), K + m = N → k = K → dd_ok p N T I J K M g → pj_WP X m_Mo_derivationDimension 36 [.inr 0, .inl i, .inl j, .inl k] [] (w_v0 s g v (M : Int)) Q := by
  have hN := ht.2.2.1
  have h1' : s (Int.toNat 1) = (N : Int) := hs.2.1
  intro m
  induction m with
  | zero =>
    intro K M g v k hK hk hok
    refine wp_b rfl (by omega) (fun c => ?_) (fun c => absurd c (by omega))
    rw [show K = N by omega] at hok
    exact hQ M g v _ hok
  | succ m ih =>
    intro K M g v k hK hk hok
    refine wp_b rfl (by omega) (fun c => absurd c (by omega)) (fun c => ?_)
    refine wp_c rfl (by omega) [0, 1, 3] (d_makeLine ht hs (K := K) hi hj hk hI hJ (by omega) (fun y hy => ?_)) rfl rfl rfl rfl
    refine wp_h (w_v0 s g y (M : Int)) rfl ?_
    refine wp_c rfl (by omega) [0, 1, 2, 3] (d_dd_step ht hs (K := K) hI hJ (by omega) rfl hok hy (fun M2 g2 v2 hok2 => ?_)) rfl rfl rfl rfl
    refine wp_h (w_v0 s g2 v2 (M2 : Int)) rfl ?_
    refine wp_g rfl (by omega) ?_
    exact ih (K + 1) M2 _ _ _ (by omega) (by omega) hok2
theorem d_dd_mid (ht : tt_ok p N T) (hs : st_m p N T s) {I : Nat} {i : Int} (hi : i = I) (hI : I < N)
    (hQ : ∀ (M : Nat) (g v : Nat → Int) (d1 d2 : pj_V), dd_ok p N T (I + 1) 0 0 M g → pj_WP X m_Mo_derivationDimension 69 [.inr 0, .inl i, d1, d2] [] (w_v0 s g v (M : Int)) Q) :
    ∀ (m J M : Nat) (g v : Nat → Int) (j : Int) (d : pj_V), J + m = N → j = J → dd_ok p N T I J 0 M g → pj_WP X m_Mo_derivationDimension 24 [.inr 0, .inl i, .inl j, d] [] (w_v0 s g v (M : Int)) Q := by
  have hN := ht.2.2.1
  have h1' : s (Int.toNat 1) = (N : Int) := hs.2.1
  intro m
  induction m with
  | zero =>
    intro J M g v j d hJ hj hok
    refine wp_b rfl (by omega) (fun c => ?_) (fun c => absurd c (by omega))
    exact hQ M g v _ _ (dd_eq hok (fun i j k h1 h2 h3 => by omega))
  | succ m ih =>
    intro J M g v j d hJ hj hok
    refine wp_b rfl (by omega) (fun c => absurd c (by omega)) (fun c => ?_)
    refine wp_g rfl (by omega) ?_
    refine d_dd_in ht hs hi hj hI (by omega) (fun M2 g2 v2 d2 hok2 => ?_) N 0 M _ _ _ (by omega) (by omega) hok
    refine wp_g rfl (by omega) ?_
    exact ih (J + 1) M2 _ _ _ _ (by omega) (by omega) (dd_eq hok2 (fun i j k h1 h2 h3 => by omega))
theorem d_dd_out (ht : tt_ok p N T) (hs : st_m p N T s)
    (hQ : ∀ (g v : Nat → Int) (rk z : Int), an_de p N T z → Q (some (.inl z)) (w_v0 s g v rk)) :
    ∀ (m I M : Nat) (g v : Nat → Int) (i : Int) (d1 d2 : pj_V), I + m = N → i = I → dd_ok p N T I 0 0 M g → pj_WP X m_Mo_derivationDimension 12 [.inr 0, .inl i, d1, d2] [] (w_v0 s g v (M : Int)) Q := by
  have hN := ht.2.2.1
  have h1' : s (Int.toNat 1) = (N : Int) := hs.2.1
  intro m
  induction m with
  | zero =>
    intro I M g v i d1 d2 hI hi hok
    refine wp_b rfl (by omega) (fun c => ?_) (fun c => absurd c (by omega))
    refine wp_r rfl (by omega) (hQ g v _ _ ?_)
    rw [show I = N by omega] at hok
    obtain ⟨ld, iv, R, a1, a2, a3, a4, a5, a6⟩ := hok
    refine ⟨R, a3, fun K hK => (a6 K hK).trans (dd_all ht hK), ?_⟩
    rw [h1', ← a4]
    simp
  | succ m ih =>
    intro I M g v i d1 d2 hI hi hok
    refine wp_b rfl (by omega) (fun c => absurd c (by omega)) (fun c => ?_)
    refine wp_g rfl (by omega) ?_
    refine d_dd_mid ht hs hi (by omega) (fun M2 g2 v2 e1 e2 hok2 => ?_) N 0 M _ _ _ _ (by omega) (by omega) hok
    refine wp_g rfl (by omega) ?_
    exact ih (I + 1) M2 _ _ _ _ _ (by omega) (by omega) hok2
/-- derivationDimension() -/
theorem d_derivation (ht : tt_ok p N T) (hs : st_m p N T s) {g v : Nat → Int} {rk : Int}
    (hQ : ∀ (g v : Nat → Int) (rk z : Int), an_de p N T z → Q (some (.inl z)) (w_v0 s g v rk)) : pj_ci X m_Mo_derivationDimension [.inr 0] (w_v0 s g v rk) Q := by
  have hp := ht.1
  refine wp_g rfl (by omega) ?_
  refine d_dd_out ht hs hQ N 0 0 _ _ _ _ _ (by omega) (by omega) ⟨fun _ => 0, fun _ => 0, fun _ _ => 0, fun r hr => by omega, fun r hr => by omega, fun r _ => ⟨fun c _ => ⟨Int.le_refl 0, (nn_p_pos hp).1⟩, Or.inl fun _ _ => rfl⟩, (ln_ct_0 _ (fun _ _ => rfl)).symm, fun W hW => ⟨fun _ r hr => by omega, fun _ r _ => hW.1⟩, fun W hW => ⟨fun _ i j k _ _ _ h => by omega, fun _ r _ => hW.1⟩⟩
end ML
