/-! Change: begin, rewrite, apply -/
section CHANGE
variable {X : pj_X} {Q : pj_Q} {p n : Int} {N : Nat} {T : Nat → Nat → Nat → Int} {br : Nat → Int}
abbrev c_Ch (t d a b : pj_V) : pj_C := .inr (0, [t, d, a, b])
/-- row by matrix -/
def ch_v (p : Int) (N : Nat) (x : Nat → Int) (G : Nat → ln_V) (c : Nat) : Int := nn_sm N (fun k => x k * G k c) % p
/-- the brackets in the new basis: F the new basis in the old one, G the old one in the new one -/
def ch_T (p : Int) (N : Nat) (T : Nat → Nat → Nat → Int) (F G : Nat → ln_V) (i j c : Nat) : Int := if i < N ∧ j < N ∧ c < N then ch_v p N (tt_bk p N T (F i) (F j)) G c else 0
theorem tt_bk_anti (ht : tt_ok p N T) (u v : ln_V) (k : Nat) : nn_eq p (tt_bk p N T v u k) (-(tt_bk p N T u v k)) := by
  rw [← tt_pr_total ht v u k, ← tt_pr_total ht u v k]
  have e : nn_sm N (fun i => tt_pr T v u k i N) = -nn_sm N (fun i => tt_pr T u v k i N) := by
    have h1 : nn_sm N (fun i => tt_pr T v u k i N) = nn_sm N (fun i => (-1) * tt_pr T u v k i N) := nn_sm_congr N (fun i _ => by
      show nn_sm N _ = (-1) * nn_sm N _
      rw [← nn_sm_mul]
      refine nn_sm_congr N (fun j _ => ?_)
      by_cases h : i < j
      · simp only [if_pos h]
        rw [show v i * u j - u i * v j = -(u i * v j - v i * u j) by omega, Int.neg_mul, Int.neg_mul, Int.one_mul]
      · simp only [if_neg h]
        rfl)
    rw [h1, nn_sm_mul, Int.neg_mul, Int.one_mul]
  rw [e]
  refine nn_eq_trans (nn_eq_mod p _) ?_
  have h := nn_eq_mul (nn_eq_rfl p (-1)) (nn_eq_symm (nn_eq_mod p (nn_sm N (fun i => tt_pr T u v k i N))))
  rw [Int.neg_mul, Int.neg_mul, Int.one_mul, Int.one_mul] at h
  exact h
theorem tt_bk_self (ht : tt_ok p N T) (u : ln_V) (k : Nat) : tt_bk p N T u u k = 0 := by
  have e : nn_sm N (fun i => tt_pr T u u k i N) = 0 := nn_sm_0 N (fun i _ => nn_sm_0 N (fun j _ => by
    split
    · rw [Int.sub_self, Int.zero_mul]
    · rfl))
  rw [← tt_pr_total ht u u k, e, Int.zero_emod]
theorem ch_ok (ht : tt_ok p N T) (F G : Nat → ln_V) : tt_ok p N (ch_T p N T F G) := by
  obtain ⟨hp, h1N, hN, hT, -⟩ := id ht
  have hp1 := (nn_p_pos hp).1
  refine ⟨hp, h1N, hN, fun i j k => ?_, fun i j k h => ?_, fun i j k => ?_, fun i k => ?_⟩
  · unfold ch_T
    split
    · exact ⟨Int.emod_nonneg _ (by omega), Int.emod_lt_of_pos _ hp1⟩
    · exact ⟨Int.le_refl 0, hp1⟩
  · unfold ch_T
    rw [if_neg (by omega)]
  · unfold ch_T
    by_cases h : i < N ∧ j < N ∧ k < N
    · rw [if_pos h, if_pos (by omega)]
      refine nn_eq_trans (nn_eq_mod p _) ?_
      have e2 : nn_eq p (nn_sm N (fun q => tt_bk p N T (F j) (F i) q * G q k)) (nn_sm N (fun q => (-1) * (tt_bk p N T (F i) (F j) q * G q k))) := nn_eq_sm N (fun q _ => by
        have := nn_eq_mul (tt_bk_anti ht (F i) (F j) q) (nn_eq_rfl p (G q k))
        rw [Int.neg_mul] at this
        rw [Int.neg_mul, Int.one_mul]
        exact this)
      rw [nn_sm_mul] at e2
      refine nn_eq_trans e2 ?_
      have h := nn_eq_mul (nn_eq_rfl p (-1)) (nn_eq_symm (nn_eq_mod p (nn_sm N (fun q => tt_bk p N T (F i) (F j) q * G q k))))
      rw [show ∀ z : Int, (-1) * z = -z from fun z => by omega, show ∀ z : Int, (-1) * z = -z from fun z => by omega] at h
      rw [show ∀ z : Int, (-1) * z = -z from fun z => by omega]
      exact h
    · rw [if_neg h, if_neg (by omega)]
      exact nn_eq_rfl p _
  · unfold ch_T
    split
    · refine (show _ = (0 : Int) % p from ?_).trans (Int.zero_emod p)
      refine congrArg (· % p) (nn_sm_0 N (fun q _ => ?_))
      rw [tt_bk_self ht, Int.zero_mul]
    · rfl
theorem c_rewrite_loop (hp : nn_p p) (hN : N ≤ 5) (hn : n = N) {g : Nat → Int} {v : Int} (hv : 0 ≤ v ∧ v ≤ 2147483647) (hg : ∀ k, k < N → 0 ≤ g k ∧ g k ≤ 2147483647)
    (hQ : Q (some (.inl (nn_nm p N (ch_v p N (nn_dg p v) (fun k => nn_dg p (g k)))))) [c_Ch (.inr 1) v_u v_u (.inr 2), c_T (.inl p) (.inl n) v_u, c_A 5 g]) :
    ∀ (m K : Nat) (r k : Int), K + m = N → k = K → r = nn_nm p N (ch_v p K (nn_dg p v) (fun k => nn_dg p (g k))) →
      pj_WP X m_Change_rewrite 4 [.inr 0, .inl v, .inl r, .inl k] [] [c_Ch (.inr 1) v_u v_u (.inr 2), c_T (.inl p) (.inl n) v_u, c_A 5 g] Q := by
  have hp1 := (nn_p_pos hp).1
  intro m
  induction m with
  | zero =>
    intro K r k hK hk hr
    refine wp_b rfl (by omega) (fun c => ?_) (fun c => absurd c (by omega))
    refine wp_r rfl (by omega) ?_
    rw [hr, show K = N by omega]
    exact hQ
  | succ m ih =>
    intro K r k hK hk hr
    have hrr : 0 ≤ r ∧ r ≤ 2147483647 := by rw [hr]; exact tt_num hp hN
    have rk := nn_dg_rg hp1 K v
    refine wp_b rfl (by omega) (fun c => absurd c (by omega)) (fun c => ?_)
    refine wp_c rfl (by omega) [2] (c_at (I := K) (by omega) hk (by omega) ?_) rfl rfl rfl rfl
    refine wp_c rfl (by omega) [1] (c_coord (K := K) hp hv (by omega) hk ?_) rfl rfl rfl rfl
    refine wp_h [c_Ch (.inr 1) v_u v_u (.inr 2), c_T (.inl p) (.inl n) v_u, c_A 5 g] rfl ?_
    refine wp_c rfl (by omega) [1] (c_plus hp hN hn hrr (hg K (by omega)) (by unfold pj_rg; have := (nn_p_pos hp).2.2; omega) ?_) rfl rfl rfl rfl
    refine wp_g rfl (by omega) ?_
    refine ih (K + 1) _ _ (by omega) (by omega) ?_
    refine nn_nm_congr N (fun c hc => ?_)
    have hvr : ∀ c, c < N → 0 ≤ ch_v p K (nn_dg p v) (fun k => nn_dg p (g k)) c ∧ ch_v p K (nn_dg p v) (fun k => nn_dg p (g k)) c < p := fun c _ => ⟨Int.emod_nonneg _ (by omega), Int.emod_lt_of_pos _ hp1⟩
    rw [hr, nn_dg_nm hp1 N hvr c hc]
    exact Int.emod_add_emod _ _ _
/-- rewrite(v) -/
theorem c_rewrite (hp : nn_p p) (hN : N ≤ 5) (hn : n = N) {g : Nat → Int} {v : Int} (hv : 0 ≤ v ∧ v ≤ 2147483647) (hg : ∀ k, k < N → 0 ≤ g k ∧ g k ≤ 2147483647)
    (hQ : Q (some (.inl (nn_nm p N (ch_v p N (nn_dg p v) (fun k => nn_dg p (g k)))))) [c_Ch (.inr 1) v_u v_u (.inr 2), c_T (.inl p) (.inl n) v_u, c_A 5 g]) :
    pj_ci X m_Change_rewrite [.inr 0, .inl v] [c_Ch (.inr 1) v_u v_u (.inr 2), c_T (.inl p) (.inl n) v_u, c_A 5 g] Q := by
  refine wp_g rfl (by omega) ?_
  exact c_rewrite_loop hp hN hn hv hg hQ N 0 _ _ (by omega) (by omega) (nn_nm_eq0 N (fun c _ => Int.zero_emod p)).symm
theorem c_Cbegin_loop (hp : nn_p p) (hN : N ≤ 5) (hn : n = N) {f g : Nat → Int}
    (hQ : Q none [c_Ch (.inr 1) v_u (.inr 2) (.inr 3), c_T (.inl p) (.inl n) v_u, c_A 5 (fun k => if k < N then p ^ k else f k), c_A 5 (fun k => if k < N then p ^ k else g k)]) :
    ∀ (m K : Nat) (f' g' : Nat → Int) (k : Int), K + m = N → k = K → (∀ j, f' j = if j < K then p ^ j else f j) → (∀ j, g' j = if j < K then p ^ j else g j) →
      pj_WP X m_Change_begin 2 [.inr 0, .inl k] [] [c_Ch (.inr 1) v_u (.inr 2) (.inr 3), c_T (.inl p) (.inl n) v_u, c_A 5 f', c_A 5 g'] Q := by
  intro m
  induction m with
  | zero =>
    intro K f' g' k hK hk hf hg
    refine wp_b rfl (by omega) (fun c => ?_) (fun c => absurd c (by omega))
    refine wp_r rfl (by omega) ?_
    rw [show f' = fun k => if k < N then p ^ k else f k from funext fun j => by rw [hf j, show K = N by omega], show g' = fun k => if k < N then p ^ k else g k from funext fun j => by rw [hg j, show K = N by omega]]
    exact hQ
  | succ m ih =>
    intro K f' g' k hK hk hf hg
    refine wp_b rfl (by omega) (fun c => absurd c (by omega)) (fun c => ?_)
    refine wp_c rfl (by omega) [1] (c_power (E := K) (by omega) hk ?_) rfl rfl rfl rfl
    refine wp_c rfl (by omega) [2] (c_put (I := K) (by omega) hk (by omega) ?_) rfl rfl rfl rfl
    refine wp_h [c_Ch (.inr 1) v_u (.inr 2) (.inr 3), c_T (.inl p) (.inl n) v_u, c_A 5 (pj_up f' K (p ^ K)), c_A 5 g'] rfl ?_
    refine wp_c rfl (by omega) [1] (c_power (E := K) (by omega) hk ?_) rfl rfl rfl rfl
    refine wp_c rfl (by omega) [3] (c_put (I := K) (by omega) hk (by omega) ?_) rfl rfl rfl rfl
    refine wp_h [c_Ch (.inr 1) v_u (.inr 2) (.inr 3), c_T (.inl p) (.inl n) v_u, c_A 5 (pj_up f' K (p ^ K)), c_A 5 (pj_up g' K (p ^ K))] rfl ?_
    refine wp_g rfl (by omega) ?_
    refine ih (K + 1) _ _ _ (by omega) (by omega) (fun j => ?_) (fun j => ?_)
    · simp only [pj_up, hf j]
      by_cases h : j = K
      · rw [if_pos h, if_pos (by omega), h]
      · rw [if_neg h]
        by_cases h2 : j < K
        · rw [if_pos h2, if_pos (by omega)]
        · rw [if_neg h2, if_neg (by omega)]
    · simp only [pj_up, hg j]
      by_cases h : j = K
      · rw [if_pos h, if_pos (by omega), h]
      · rw [if_neg h]
        by_cases h2 : j < K
        · rw [if_pos h2, if_pos (by omega)]
        · rw [if_neg h2, if_neg (by omega)]
/-- begin() -/
theorem c_Cbegin (hp : nn_p p) (hN : N ≤ 5) (hn : n = N) {f g : Nat → Int}
    (hQ : Q none [c_Ch (.inr 1) v_u (.inr 2) (.inr 3), c_T (.inl p) (.inl n) v_u, c_A 5 (fun k => if k < N then p ^ k else f k), c_A 5 (fun k => if k < N then p ^ k else g k)]) :
    pj_ci X m_Change_begin [.inr 0] [c_Ch (.inr 1) v_u (.inr 2) (.inr 3), c_T (.inl p) (.inl n) v_u, c_A 5 f, c_A 5 g] Q := by
  refine wp_g rfl (by omega) ?_
  exact c_Cbegin_loop hp hN hn hQ N 0 _ _ _ (by omega) (by omega) (fun j => by rw [if_neg (by omega)]) (fun j => by rw [if_neg (by omega)])
/-- the world of apply -/
abbrev w_Ch (p n : Int) (br : Nat → Int) (d1 d2 : pj_V) (dr f g : Nat → Int) : List pj_C := [c_Ch (.inr 1) (.inr 3) (.inr 5) (.inr 6), c_T (.inl p) (.inl n) (.inr 2), c_A 25 br, c_T d1 d2 (.inr 4), c_A 25 dr, c_A 5 f, c_A 5 g]
/-- the pairs that are done -/
abbrev ch_d (N I J a b : Nat) : Prop := a < b ∧ b < N ∧ (a < I ∨ (a = I ∧ b < J))
def ch_in (p : Int) (N : Nat) (T' : Nat → Nat → Nat → Int) (I J : Nat) (dr : Nat → Int) : Prop := ∀ a b, a < 5 → b < 5 → dr (5 * a + b) = if ch_d N I J a b ∨ ch_d N I J b a then nn_nm p N (T' a b) else 0
theorem ch_in_step {T' : Nat → Nat → Nat → Int} (ht : tt_ok p N T') {I J : Nat} {dr : Nat → Int} (hIJ : I < J) (hJ : J < N) (h : ch_in p N T' I J dr) :
    ch_in p N T' I (J + 1) (pj_up (pj_up dr (5 * I + J) (nn_nm p N (T' I J))) (5 * J + I) (nn_plus p N 0 (nn_nm p N (T' I J)) (-1))) := by
  obtain ⟨hp, h1N, hN, hT, h0, ha, -⟩ := id ht
  have hp1 := (nn_p_pos hp).1
  intro a b ha5 hb5
  simp only [pj_up]
  by_cases h1 : 5 * a + b = 5 * J + I
  · have ea : a = J := by omega
    have eb : b = I := by omega
    subst ea eb
    rw [if_pos h1, if_pos (Or.inr ⟨hIJ, hJ, Or.inr ⟨rfl, by omega⟩⟩)]
    refine nn_nm_congr N (fun c hc => ?_)
    rw [nn_dg_0 hp1, nn_dg_nm hp1 N (fun c _ => hT _ _ c) c hc, Int.zero_add, Int.neg_mul, Int.one_mul]
    exact nn_eq_red (nn_eq_trans (nn_eq_mod p _) (nn_eq_symm (ha b a c))) ⟨Int.emod_nonneg _ (by omega), Int.emod_lt_of_pos _ hp1⟩ (hT _ _ c)
  · rw [if_neg h1]
    by_cases h2 : 5 * a + b = 5 * I + J
    · have ea : a = I := by omega
      have eb : b = J := by omega
      subst ea eb
      rw [if_pos h2, if_pos (Or.inl ⟨hIJ, hJ, Or.inr ⟨rfl, by omega⟩⟩)]
    · rw [if_neg h2, h a b ha5 hb5]
      have e : (ch_d N I J a b ∨ ch_d N I J b a) ↔ (ch_d N I (J + 1) a b ∨ ch_d N I (J + 1) b a) := by
        unfold ch_d
        omega
      by_cases hc : ch_d N I J a b ∨ ch_d N I J b a
      · rw [if_pos hc, if_pos (e.mp hc)]
      · rw [if_neg hc, if_neg (fun x => hc (e.mpr x))]
theorem ch_in_row {T' : Nat → Nat → Nat → Int} {I : Nat} {dr : Nat → Int} (h : ch_in p N T' I N dr) : ch_in p N T' (I + 1) (I + 2) dr := by
  intro a b ha5 hb5
  rw [h a b ha5 hb5]
  have e : (ch_d N I N a b ∨ ch_d N I N b a) ↔ (ch_d N (I + 1) (I + 2) a b ∨ ch_d N (I + 1) (I + 2) b a) := by
    unfold ch_d
    omega
  by_cases hc : ch_d N I N a b ∨ ch_d N I N b a
  · rw [if_pos hc, if_pos (e.mp hc)]
  · rw [if_neg hc, if_neg (fun x => hc (e.mpr x))]
theorem ch_in_end {T' : Nat → Nat → Nat → Int} (ht : tt_ok p N T') {J : Nat} {dr : Nat → Int} (h : ch_in p N T' N J dr) : tt_br p N T' dr := by
  obtain ⟨hp, h1N, hN, hT, h0, ha, hd⟩ := id ht
  intro a b ha5 hb5
  rw [h a b ha5 hb5]
  by_cases hc : ch_d N N J a b ∨ ch_d N N J b a
  · rw [if_pos hc]
  · rw [if_neg hc]
    refine (nn_nm_eq0 N (fun c hcn => ?_)).symm
    by_cases hab : a = b
    · rw [hab]
      exact hd b c
    · refine h0 a b c ?_
      unfold ch_d at hc
      omega
set_option maxHeartbeats 1000000 in
theorem c_apply_in (ht : tt_ok p N T) (hb : tt_br p N T br) (hn : n = N) {f g : Nat → Int} (hf : ∀ k, k < N → 0 ≤ f k ∧ f k ≤ 2147483647) (hg : ∀ k, k < N → 0 ≤ g k ∧ g k ≤ 2147483647) {I : Nat} {i : Int} (hI : I < N) (hi : i = I)
    (hQ : ∀ (dr : Nat → Int) (j d : pj_V), ch_in p N (ch_T p N T (fun k => nn_dg p (f k)) (fun k => nn_dg p (g k))) I N dr → pj_WP X m_Change_apply 93 [.inr 0, .inl i, j, d] [] (w_Ch p n br (.inl p) (.inl n) dr f g) Q) :
    ∀ (m J : Nat) (j : Int) (d : pj_V) (dr : Nat → Int), J + m = N → j = J → I < J → ch_in p N (ch_T p N T (fun k => nn_dg p (f k)) (fun k => nn_dg p (g k))) I J dr →
      pj_WP X m_Change_apply 38 [.inr 0, .inl i, .inl j, d] [] (w_Ch p n br (.inl p) (.inl n) dr f g) Q := by
  obtain ⟨hp, h1N, hN, hT, -⟩ := id ht
  have hp1 := (nn_p_pos hp).1
  intro m
  induction m with
  | zero =>
    intro J j d dr hJ hj hIJ hin
    refine wp_b rfl (by omega) (fun c => ?_) (fun c => absurd c (by omega))
    rw [show J = N by omega] at hin
    exact hQ _ _ _ hin
  | succ m ih =>
    intro J j d dr hJ hj hIJ hin
    have hV : 0 ≤ nn_nm p N (tt_bk p N T (nn_dg p (f I)) (nn_dg p (f J))) ∧ nn_nm p N (tt_bk p N T (nn_dg p (f I)) (nn_dg p (f J))) ≤ 2147483647 := jc_rg hp hN (fun c _ => tt_bk_rg hp1 _ _ _)
    have eR : nn_nm p N (ch_v p N (nn_dg p (nn_nm p N (tt_bk p N T (nn_dg p (f I)) (nn_dg p (f J))))) (fun k => nn_dg p (g k))) = nn_nm p N (ch_T p N T (fun k => nn_dg p (f k)) (fun k => nn_dg p (g k)) I J) := by
      refine nn_nm_congr N (fun c hc => ?_)
      unfold ch_T
      rw [if_pos ⟨hI, by omega, hc⟩]
      refine congrArg (· % p) (nn_sm_congr N (fun k hk => ?_))
      rw [nn_dg_nm hp1 N (fun c _ => tt_bk_rg hp1 _ _ _) k hk]
    have hR : 0 ≤ nn_nm p N (ch_T p N T (fun k => nn_dg p (f k)) (fun k => nn_dg p (g k)) I J) ∧ nn_nm p N (ch_T p N T (fun k => nn_dg p (f k)) (fun k => nn_dg p (g k)) I J) ≤ 2147483647 := jc_rg hp hN (fun c _ => (ch_ok ht _ _).2.2.2.1 _ _ c)
    refine wp_b rfl (by omega) (fun c => absurd c (by omega)) (fun c => ?_)
    refine wp_c rfl (by omega) [5] (c_at (I := I) (by omega) hi (by omega) ?_) rfl rfl rfl rfl
    refine wp_c rfl (by omega) [5] (c_at (I := J) (by omega) hj (by omega) ?_) rfl rfl rfl rfl
    refine wp_h (w_Ch p n br (.inl p) (.inl n) dr f g) rfl ?_
    refine wp_c rfl (by omega) [1, 2] (c_product ht hb hn (hf I hI) (hf J (by omega)) ?_) rfl rfl rfl rfl
    refine wp_h (w_Ch p n br (.inl p) (.inl n) dr f g) rfl ?_
    refine wp_c rfl (by omega) [0, 1, 6] (c_rewrite hp hN hn hV hg ?_) rfl rfl rfl rfl
    rw [eR]
    refine wp_h (w_Ch p n br (.inl p) (.inl n) dr f g) rfl ?_
    refine wp_c rfl (by omega) [3, 4] (c_setEntry (I := I) (J := J) hp hN hn hi hj (by omega) (by omega) hR ?_) rfl rfl rfl rfl
    refine wp_g rfl (by omega) ?_
    exact ih (J + 1) _ _ _ (by omega) (by omega) (by omega) (ch_in_step (ch_ok ht _ _) hIJ (by omega) hin)
set_option maxHeartbeats 1000000 in
theorem c_apply_out (ht : tt_ok p N T) (hb : tt_br p N T br) (hn : n = N) {f g : Nat → Int} (hf : ∀ k, k < N → 0 ≤ f k ∧ f k ≤ 2147483647) (hg : ∀ k, k < N → 0 ≤ g k ∧ g k ≤ 2147483647)
    (hQ : ∀ br' dr', tt_br p N (ch_T p N T (fun k => nn_dg p (f k)) (fun k => nn_dg p (g k))) br' → Q none (w_Ch p n br' (.inl p) (.inl n) dr' f g)) :
    ∀ (m I : Nat) (i : Int) (d1 d2 : pj_V) (dr : Nat → Int), I + m = N → i = I → ch_in p N (ch_T p N T (fun k => nn_dg p (f k)) (fun k => nn_dg p (g k))) I (I + 1) dr →
      pj_WP X m_Change_apply 23 [.inr 0, .inl i, d1, d2] [] (w_Ch p n br (.inl p) (.inl n) dr f g) Q := by
  obtain ⟨hp, h1N, hN, hT, -⟩ := id ht
  intro m
  induction m with
  | zero =>
    intro I i d1 d2 dr hI hi hin
    refine wp_b rfl (by omega) (fun c => ?_) (fun c => absurd c (by omega))
    refine wp_c rfl (by omega) [1, 2, 3, 4] (c_copyFrom ?_) rfl rfl rfl rfl
    refine wp_r rfl (by omega) ?_
    rw [show I = N by omega] at hin
    refine hQ _ _ (fun a b ha hb5 => ?_)
    rw [← ch_in_end (ch_ok ht _ _) hin a b ha hb5]
    unfold va_cpy
    rw [if_pos (by omega)]
    exact congrArg dr (by omega)
  | succ m ih =>
    intro I i d1 d2 dr hI hi hin
    refine wp_b rfl (by omega) (fun c => absurd c (by omega)) (fun c => ?_)
    refine wp_g rfl (by omega) ?_
    refine c_apply_in ht hb hn hf hg (by omega) hi (fun dr' j d h' => ?_) (N - (I + 1)) (I + 1) _ _ _ (by omega) (by omega) (by omega) hin
    refine wp_g rfl (by omega) ?_
    exact ih (I + 1) _ _ _ _ (by omega) (by omega) (ch_in_row h')
/-- apply() -/
theorem c_apply (ht : tt_ok p N T) (hb : tt_br p N T br) (hn : n = N) {f g dr : Nat → Int} (hf : ∀ k, k < N → 0 ≤ f k ∧ f k ≤ 2147483647) (hg : ∀ k, k < N → 0 ≤ g k ∧ g k ≤ 2147483647)
    (hQ : ∀ br' dr', tt_br p N (ch_T p N T (fun k => nn_dg p (f k)) (fun k => nn_dg p (g k))) br' → Q none (w_Ch p n br' (.inl p) (.inl n) dr' f g)) :
    pj_ci X m_Change_apply [.inr 0] (w_Ch p n br v_u v_u dr f g) Q := by
  refine wp_c rfl (by omega) [3, 4] (c_Tbegin (p' := p) (n' := n) ?_) rfl rfl rfl rfl
  refine wp_g rfl (by omega) ?_
  refine c_apply_out ht hb hn hf hg hQ N 0 _ _ _ _ (by omega) (by omega) (fun a b ha hb5 => ?_)
  rw [if_pos (by omega), if_neg]
  unfold ch_d
  omega
end CHANGE
