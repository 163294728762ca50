/-! Change: add, scale, exchange -/
section CHANGE2
variable {X : pj_X} {Q : pj_Q} {p n : Int} {N : Nat} {T : Nat → Nat → Nat → Int} {br : Nat → Int}
theorem ch_T_congr {F F' G G' : Nat → ln_V} (hF : ∀ k, k < N → ln_eq p N (F k) (F' k)) (hG : ∀ k, k < N → ln_eq p N (G k) (G' k)) : ch_T p N T F G = ch_T p N T F' G' := by
  funext i j c
  unfold ch_T
  by_cases h : i < N ∧ j < N ∧ c < N
  · rw [if_pos h, if_pos h]
    refine nn_eq_iff.mp (nn_eq_sm N (fun k hk => ?_))
    exact nn_eq_mul (tt_bk_congr (hF i h.1) (hF j h.2.1) k) (hG k hk c h.2.2)
  · rw [if_neg h, if_neg h]
/-- the basis with one vector put anew -/
def ch_u (I : Nat) (x : ln_V) (k : Nat) : ln_V := if k = I then x else ln_e k
/-- the basis with two vectors exchanged -/
def ch_x (I J k : Nat) : ln_V := if k = J then ln_e I else if k = I then ln_e J else ln_e k
theorem ch_plus (hp : nn_p p) (I J : Nat) (a : Int) : ln_eq p N (nn_dg p (nn_plus p N (p ^ I) (p ^ J) a)) (fun c => ln_e I c + a * ln_e J c) := by
  have hp1 := (nn_p_pos hp).1
  intro c hc
  have h : nn_dg p (nn_plus p N (p ^ I) (p ^ J) a) c = (nn_dg p (p ^ I) c + a * nn_dg p (p ^ J) c) % p := nn_dg_nm hp1 N (f := fun k => (nn_dg p (p ^ I) k + a * nn_dg p (p ^ J) k) % p) (fun k _ => ⟨Int.emod_nonneg _ (by omega), Int.emod_lt_of_pos _ hp1⟩) c hc
  rw [h, nn_dg_pw hp, nn_dg_pw hp]
  exact nn_eq_mod p _
theorem ch_f1 (hp : nn_p p) {f : Nat → Int} {a : Int} {I : Nat} {x : ln_V} (ha : ln_eq p N (nn_dg p a) x) : ∀ k, k < N → ln_eq p N (nn_dg p (pj_up (fun k => if k < N then p ^ k else f k) I a k)) (ch_u I x k) := by
  intro k hk
  unfold pj_up ch_u
  by_cases h : k = I
  · rw [if_pos h, if_pos h]
    exact ha
  · rw [if_neg h, if_neg h]
    simp only [if_pos hk]
    intro c _
    rw [nn_dg_pw hp]
    exact nn_eq_rfl p _
theorem ch_fr (hp : nn_p p) (hN : N ≤ 5) {f : Nat → Int} {a : Int} {I : Nat} (ha : 0 ≤ a ∧ a ≤ 2147483647) : ∀ k, k < N → 0 ≤ pj_up (fun k => if k < N then p ^ k else f k) I a k ∧ pj_up (fun k => if k < N then p ^ k else f k) I a k ≤ 2147483647 := by
  intro k hk
  unfold pj_up
  by_cases h : k = I
  · rw [if_pos h]
    exact ha
  · rw [if_neg h]
    simp only [if_pos hk]
    have := nn_pw1 (nn_p_pos hp).1 k
    have := nn_pwle hp k (by omega)
    omega
set_option maxHeartbeats 1000000 in
/-- add(i, j, c) -/
theorem c_Cadd (ht : tt_ok p N T) (hb : tt_br p N T br) (hn : n = N) {f g dr : Nat → Int} {i j a : Int} {I J : Nat} (hi : i = I) (hj : j = J) (hI : I < N) (hJ : J < N) (ha : 1 ≤ a ∧ a < p)
    (hQ : ∀ br' dr' f' g', tt_br p N (ch_T p N T (ch_u I (fun c => ln_e I c + a * ln_e J c)) (ch_u I (fun c => ln_e I c + (-a) * ln_e J c))) br' → Q none (w_Ch p n br' (.inl p) (.inl n) dr' f' g')) :
    pj_ci X m_Change_add [.inr 0, .inl i, .inl j, .inl a] (w_Ch p n br v_u v_u dr f g) Q := by
  obtain ⟨hp, h1N, hN, hT, -⟩ := id ht
  obtain ⟨hp1, hp2, hp3⟩ := nn_p_pos hp
  have pw : ∀ A : Nat, A < N → 0 ≤ p ^ A ∧ p ^ A ≤ 2147483647 := fun A hA => by
    have := nn_pw1 hp1 A
    have := nn_pwle hp A (by omega)
    omega
  have rp : ∀ b : Int, 0 ≤ nn_plus p N (p ^ I) (p ^ J) b ∧ nn_plus p N (p ^ I) (p ^ J) b ≤ 2147483647 := fun b => tt_num hp hN
  refine wp_c rfl (by omega) [0, 1, 5, 6] (c_Cbegin hp hN hn ?_) rfl rfl rfl rfl
  refine wp_h (w_Ch p n br v_u v_u dr (fun k => if k < N then p ^ k else f k) (fun k => if k < N then p ^ k else g k)) rfl ?_
  refine wp_c rfl (by omega) [1] (c_power (E := I) (by omega) hi ?_) rfl rfl rfl rfl
  refine wp_c rfl (by omega) [1] (c_power (E := J) (by omega) hj ?_) rfl rfl rfl rfl
  refine wp_h (w_Ch p n br v_u v_u dr (fun k => if k < N then p ^ k else f k) (fun k => if k < N then p ^ k else g k)) rfl ?_
  refine wp_c rfl (by omega) [1] (c_plus hp hN hn (pw I hI) (pw J hJ) (by unfold pj_rg; omega) ?_) rfl rfl rfl rfl
  refine wp_c rfl (by omega) [5] (c_put (I := I) (by omega) hi (by omega) ?_) rfl rfl rfl rfl
  refine wp_h (w_Ch p n br v_u v_u dr (pj_up (fun k => if k < N then p ^ k else f k) I (nn_plus p N (p ^ I) (p ^ J) a)) (fun k => if k < N then p ^ k else g k)) rfl ?_
  refine wp_c rfl (by omega) [1] (c_power (E := I) (by omega) hi ?_) rfl rfl rfl rfl
  refine wp_c rfl (by omega) [1] (c_power (E := J) (by omega) hj ?_) rfl rfl rfl rfl
  refine wp_h (w_Ch p n br v_u v_u dr (pj_up (fun k => if k < N then p ^ k else f k) I (nn_plus p N (p ^ I) (p ^ J) a)) (fun k => if k < N then p ^ k else g k)) rfl ?_
  refine wp_c rfl (by omega) [1] (c_plus hp hN hn (pw I hI) (pw J hJ) (by unfold pj_rg; omega) ?_) rfl rfl rfl rfl
  refine wp_c rfl (by omega) [6] (c_put (I := I) (by omega) hi (by omega) ?_) rfl rfl rfl rfl
  refine wp_h (w_Ch p n br v_u v_u dr (pj_up (fun k => if k < N then p ^ k else f k) I (nn_plus p N (p ^ I) (p ^ J) a)) (pj_up (fun k => if k < N then p ^ k else g k) I (nn_plus p N (p ^ I) (p ^ J) (-a)))) rfl ?_
  refine wp_c rfl (by omega) [0, 1, 2, 3, 4, 5, 6] (c_apply ht hb hn (ch_fr hp hN (rp a)) (ch_fr hp hN (rp (-a))) (fun br' dr' hb' => ?_)) rfl rfl rfl rfl
  refine wp_r rfl (by omega) ?_
  rw [ch_T_congr (ch_f1 hp (ch_plus hp I J a)) (ch_f1 hp (ch_plus hp I J (-a)))] at hb'
  exact hQ _ _ _ _ hb'
theorem nn_dg_cpw (hp : nn_p p) {a : Int} (ha : 0 ≤ a ∧ a < p) : ∀ (i k : Nat), nn_dg p (a * p ^ i) k = a * ln_e i k
  | 0, 0 => by
    show a * p ^ 0 % p = a * 1
    rw [Int.pow_zero, Int.mul_one, Int.emod_eq_of_lt ha.1 ha.2]
  | 0, k + 1 => by
    show nn_dg p (a * p ^ 0 / p) k = a * 0
    rw [Int.pow_zero, Int.mul_one, Int.ediv_eq_zero_of_lt ha.1 ha.2, nn_dg_0 (nn_p_pos hp).1, Int.mul_zero]
  | i + 1, 0 => by
    show a * p ^ (i + 1) % p = a * 0
    rw [Int.pow_succ, ← Int.mul_assoc, Int.mul_emod_left, Int.mul_zero]
  | i + 1, k + 1 => by
    show nn_dg p (a * p ^ (i + 1) / p) k = a * ln_e (i + 1) (k + 1)
    have := (nn_p_pos hp).2.1
    rw [Int.pow_succ, ← Int.mul_assoc, Int.mul_ediv_cancel _ (by omega), nn_dg_cpw hp ha i k]
    unfold ln_e
    by_cases h : k = i
    · rw [if_pos h, if_pos (by omega)]
    · rw [if_neg h, if_neg (by omega)]
theorem ch_cpw (hp : nn_p p) (hN : N ≤ 5) {I : Nat} (hI : I < N) {a : Int} (ha : 1 ≤ a ∧ a < p) : 0 ≤ a * p ^ I ∧ a * p ^ I ≤ 2147483647 := by
  have h1 := nn_pw1 (nn_p_pos hp).1 I
  have h2 := nn_pwle hp I (by omega)
  have h3 := (nn_p_pos hp).2.2
  have h4 : 0 ≤ a * p ^ I := Int.mul_nonneg (by omega) (by omega)
  have h5 : a * p ^ I ≤ 7 * 16807 := Int.mul_le_mul (by omega) h2 (by omega) (by omega)
  omega
set_option maxHeartbeats 1000000 in
/-- scale(i, c) -/
theorem c_Cscale (ht : tt_ok p N T) (hb : tt_br p N T br) (hn : n = N) {f g dr : Nat → Int} {i a : Int} {I : Nat} (hi : i = I) (hI : I < N) (ha : 1 ≤ a ∧ a < p)
    (hQ : ∀ br' dr' f' g' y, 1 ≤ y → y < p → y * a % p = 1 → tt_br p N (ch_T p N T (ch_u I (fun c => a * ln_e I c)) (ch_u I (fun c => y * ln_e I c))) br' → Q none (w_Ch p n br' (.inl p) (.inl n) dr' f' g')) :
    pj_ci X m_Change_scale [.inr 0, .inl i, .inl a] (w_Ch p n br v_u v_u dr f g) Q := by
  obtain ⟨hp, h1N, hN, hT, -⟩ := id ht
  obtain ⟨hp1, hp2, hp3⟩ := nn_p_pos hp
  have hr := ch_cpw hp hN hI ha
  refine wp_c rfl (by omega) [0, 1, 5, 6] (c_Cbegin hp hN hn ?_) rfl rfl rfl rfl
  refine wp_h (w_Ch p n br v_u v_u dr (fun k => if k < N then p ^ k else f k) (fun k => if k < N then p ^ k else g k)) rfl ?_
  refine wp_c rfl (by omega) [1] (c_power (E := I) (by omega) hi ?_) rfl rfl rfl rfl
  refine wp_c rfl (by omega) [5] (c_put (I := I) (by omega) hi (by omega) ?_) rfl rfl rfl rfl
  refine wp_h (w_Ch p n br v_u v_u dr (pj_up (fun k => if k < N then p ^ k else f k) I (a * p ^ I)) (fun k => if k < N then p ^ k else g k)) rfl ?_
  refine wp_c rfl (by omega) [] (c_inverse hp ha (fun y y1 y2 y3 => ?_)) rfl rfl rfl rfl
  have hr2 := ch_cpw hp hN hI (a := y) ⟨y1, y2⟩
  refine wp_h (w_Ch p n br v_u v_u dr (pj_up (fun k => if k < N then p ^ k else f k) I (a * p ^ I)) (fun k => if k < N then p ^ k else g k)) rfl ?_
  refine wp_c rfl (by omega) [1] (c_power (E := I) (by omega) hi ?_) rfl rfl rfl rfl
  refine wp_c rfl (by omega) [6] (c_put (I := I) (by omega) hi (by omega) ?_) rfl rfl rfl rfl
  refine wp_h (w_Ch p n br v_u v_u dr (pj_up (fun k => if k < N then p ^ k else f k) I (a * p ^ I)) (pj_up (fun k => if k < N then p ^ k else g k) I (y * p ^ I))) rfl ?_
  refine wp_c rfl (by omega) [0, 1, 2, 3, 4, 5, 6] (c_apply ht hb hn (ch_fr hp hN hr) (ch_fr hp hN hr2) (fun br' dr' hb' => ?_)) rfl rfl rfl rfl
  refine wp_r rfl (by omega) ?_
  have q1 : ∀ z : Int, 1 ≤ z ∧ z < p → ln_eq p N (nn_dg p (z * p ^ I)) (fun c => z * ln_e I c) := fun z hz c _ => by
    rw [nn_dg_cpw hp ⟨by omega, hz.2⟩]
    exact nn_eq_rfl p _
  rw [ch_T_congr (ch_f1 hp (q1 a ha)) (ch_f1 hp (q1 y ⟨y1, y2⟩))] at hb'
  exact hQ _ _ _ _ y y1 y2 y3 hb'
theorem ch_f2 (hp : nn_p p) {f : Nat → Int} {I J : Nat} : ∀ k, k < N → ln_eq p N (nn_dg p (pj_up (pj_up (fun k => if k < N then p ^ k else f k) I (p ^ J)) J (p ^ I) k)) (ch_x I J k) := by
  intro k hk c _
  unfold pj_up ch_x
  by_cases h : k = J
  · rw [if_pos h, if_pos h, nn_dg_pw hp]
    exact nn_eq_rfl p _
  · rw [if_neg h, if_neg h]
    by_cases h2 : k = I
    · simp only [if_pos h2]
      rw [nn_dg_pw hp]
      exact nn_eq_rfl p _
    · simp only [if_neg h2, if_pos hk]
      rw [nn_dg_pw hp]
      exact nn_eq_rfl p _
theorem ch_fr2 (hp : nn_p p) (hN : N ≤ 5) {f : Nat → Int} {I J : Nat} (hI : I < N) (hJ : J < N) : ∀ k, k < N → 0 ≤ pj_up (pj_up (fun k => if k < N then p ^ k else f k) I (p ^ J)) J (p ^ I) k ∧ pj_up (pj_up (fun k => if k < N then p ^ k else f k) I (p ^ J)) J (p ^ I) k ≤ 2147483647 := by
  intro k hk
  have pw : ∀ A : Nat, A < N → 0 ≤ p ^ A ∧ p ^ A ≤ 2147483647 := fun A hA => by
    have := nn_pw1 (nn_p_pos hp).1 A
    have := nn_pwle hp A (by omega)
    omega
  unfold pj_up
  by_cases h : k = J
  · simp only [if_pos h]
    exact pw I hI
  · simp only [if_neg h]
    by_cases h2 : k = I
    · simp only [if_pos h2]
      exact pw J hJ
    · simp only [if_neg h2, if_pos hk]
      exact pw k hk
set_option maxHeartbeats 1000000 in
/-- exchange(i, j) -/
theorem c_Cexchange (ht : tt_ok p N T) (hb : tt_br p N T br) (hn : n = N) {f g dr : Nat → Int} {i j : Int} {I J : Nat} (hi : i = I) (hj : j = J) (hI : I < N) (hJ : J < N)
    (hQ : ∀ br' dr' f' g', tt_br p N (ch_T p N T (ch_x I J) (ch_x I J)) br' → Q none (w_Ch p n br' (.inl p) (.inl n) dr' f' g')) :
    pj_ci X m_Change_exchange [.inr 0, .inl i, .inl j] (w_Ch p n br v_u v_u dr f g) Q := by
  obtain ⟨hp, h1N, hN, hT, -⟩ := id ht
  refine wp_c rfl (by omega) [0, 1, 5, 6] (c_Cbegin hp hN hn ?_) rfl rfl rfl rfl
  refine wp_h (w_Ch p n br v_u v_u dr (fun k => if k < N then p ^ k else f k) (fun k => if k < N then p ^ k else g k)) rfl ?_
  refine wp_c rfl (by omega) [1] (c_power (E := J) (by omega) hj ?_) rfl rfl rfl rfl
  refine wp_c rfl (by omega) [5] (c_put (I := I) (by omega) hi (by omega) ?_) rfl rfl rfl rfl
  refine wp_h (w_Ch p n br v_u v_u dr (pj_up (fun k => if k < N then p ^ k else f k) I (p ^ J)) (fun k => if k < N then p ^ k else g k)) rfl ?_
  refine wp_c rfl (by omega) [1] (c_power (E := I) (by omega) hi ?_) rfl rfl rfl rfl
  refine wp_c rfl (by omega) [5] (c_put (I := J) (by omega) hj (by omega) ?_) rfl rfl rfl rfl
  refine wp_h (w_Ch p n br v_u v_u dr (pj_up (pj_up (fun k => if k < N then p ^ k else f k) I (p ^ J)) J (p ^ I)) (fun k => if k < N then p ^ k else g k)) rfl ?_
  refine wp_c rfl (by omega) [1] (c_power (E := J) (by omega) hj ?_) rfl rfl rfl rfl
  refine wp_c rfl (by omega) [6] (c_put (I := I) (by omega) hi (by omega) ?_) rfl rfl rfl rfl
  refine wp_h (w_Ch p n br v_u v_u dr (pj_up (pj_up (fun k => if k < N then p ^ k else f k) I (p ^ J)) J (p ^ I)) (pj_up (fun k => if k < N then p ^ k else g k) I (p ^ J))) rfl ?_
  refine wp_c rfl (by omega) [1] (c_power (E := I) (by omega) hi ?_) rfl rfl rfl rfl
  refine wp_c rfl (by omega) [6] (c_put (I := J) (by omega) hj (by omega) ?_) rfl rfl rfl rfl
  refine wp_h (w_Ch p n br v_u v_u dr (pj_up (pj_up (fun k => if k < N then p ^ k else f k) I (p ^ J)) J (p ^ I)) (pj_up (pj_up (fun k => if k < N then p ^ k else g k) I (p ^ J)) J (p ^ I))) rfl ?_
  refine wp_c rfl (by omega) [0, 1, 2, 3, 4, 5, 6] (c_apply ht hb hn (ch_fr2 hp hN hI hJ) (ch_fr2 hp hN hI hJ) (fun br' dr' hb' => ?_)) rfl rfl rfl rfl
  refine wp_r rfl (by omega) ?_
  rw [ch_T_congr (ch_f2 hp) (ch_f2 hp)] at hb'
  exact hQ _ _ _ _ hb'
end CHANGE2
