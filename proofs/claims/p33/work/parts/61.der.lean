/-! derivations -/
/-- the endomorphism of a matrix, row by row -/
def zd_of (N : Nat) (x : ln_V) : ln_V → ln_V := fun u r => nn_sm N (fun a => x (r * N + a) * u a)
def zd_mat (N : Nat) (φ : ln_V → ln_V) : ln_V := fun q => φ (ln_e (q % N)) (q / N)
def zd_der (p : Int) (N : Nat) (T : Nat → Nat → Nat → Int) (δ : ln_V → ln_V) : Prop := ∀ u v c, c < N → nn_eq p (δ (tt_bk p N T u v) c) (tt_bk p N T (δ u) v c + tt_bk p N T u (δ v) c)
def zd_E (p : Int) (N : Nat) (T : Nat → Nat → Nat → Int) (δ : ln_V → ln_V) (u v : ln_V) (c : Nat) : Int := δ (tt_bk p N T u v) c + -(tt_bk p N T (δ u) v c) + -(tt_bk p N T u (δ v) c)
section ZDE
variable {p : Int} {N : Nat} {T T' : Nat → Nat → Nat → Int} {φ ψ δ : ln_V → ln_V} {z z' : Int}
theorem zd_lin (x : ln_V) : zl_lin p N N (zd_of N x) := by
  refine ⟨fun u v r _ => ?_, fun a u r _ => ?_, fun u v h r _ => nn_eq_sm N (fun a ha => nn_eq_mul (nn_eq_rfl p _) (h a ha))⟩
  · show nn_eq p (nn_sm N (fun a => x (r * N + a) * (u a + v a))) (nn_sm N (fun a => x (r * N + a) * u a) + nn_sm N (fun a => x (r * N + a) * v a))
    rw [← nn_sm_add]
    refine nn_eq_sm N (fun a _ => ?_)
    rw [Int.mul_add]
    exact nn_eq_rfl p _
  · show nn_eq p (nn_sm N (fun q => x (r * N + q) * (a * u q))) (a * nn_sm N (fun q => x (r * N + q) * u q))
    rw [← nn_sm_mul]
    refine nn_eq_sm N (fun q _ => ?_)
    rw [Int.mul_left_comm]
    exact nn_eq_rfl p _
theorem zd_lx (u : ln_V) : zl_lin p (N * N) N (fun x => zd_of N x u) := by
  refine ⟨fun x y r _ => ?_, fun a x r _ => ?_, fun x y h r hr => nn_eq_sm N (fun a ha => nn_eq_mul (h _ (dv_ix hr ha)) (nn_eq_rfl p _))⟩
  · show nn_eq p (nn_sm N (fun a => (x (r * N + a) + y (r * N + a)) * u a)) (nn_sm N (fun a => x (r * N + a) * u a) + nn_sm N (fun a => y (r * N + a) * u a))
    rw [← nn_sm_add]
    refine nn_eq_sm N (fun a _ => ?_)
    rw [Int.add_mul]
    exact nn_eq_rfl p _
  · show nn_eq p (nn_sm N (fun q => a * x (r * N + q) * u q)) (a * nn_sm N (fun q => x (r * N + q) * u q))
    rw [← nn_sm_mul]
    refine nn_eq_sm N (fun q _ => ?_)
    rw [Int.mul_assoc]
    exact nn_eq_rfl p _
theorem zd_at {r a : Nat} (ha : a < N) : zd_mat N φ (r * N + a) = φ (ln_e a) r := by
  have e1 : (r * N + a) % N = a := by rw [Nat.mul_comm, Nat.mul_add_mod, Nat.mod_eq_of_lt ha]
  have e2 : (r * N + a) / N = r := by rw [Nat.mul_comm, Nat.mul_add_div (by omega), Nat.div_eq_of_lt ha, Nat.add_zero]
  show φ (ln_e ((r * N + a) % N)) ((r * N + a) / N) = _
  rw [e1, e2]
theorem zd_of_mat (h : zl_lin p N N φ) (u : ln_V) : ln_eq p N (zd_of N (zd_mat N φ) u) (φ u) := by
  refine fun r hr => nn_eq_trans ?_ (nn_eq_symm (zl_mat h u r hr))
  refine nn_eq_sm N (fun a ha => ?_)
  rw [zd_at ha, Int.mul_comm]
  exact nn_eq_rfl p _
theorem zd_ix {q : Nat} (hq : q < N * N) : q % N < N ∧ q / N < N ∧ q / N * N + q % N = q := by
  have h0 : 0 < N := by
    rcases Nat.eq_zero_or_pos N with e | e
    · subst e; omega
    · exact e
  exact ⟨Nat.mod_lt _ h0, Nat.div_lt_of_lt_mul hq, by rw [Nat.mul_comm]; exact Nat.div_add_mod q N⟩
theorem zd_e (x : ln_V) {i : Nat} (hi : i < N) (r : Nat) : zd_of N x (ln_e i) r = x (r * N + i) := by
  show nn_sm N (fun a => x (r * N + a) * ln_e i a) = _
  rw [nn_sm_one N i hi (fun a _ hne => by rw [show ln_e i a = 0 from if_neg hne, Int.mul_zero]), show ln_e i i = 1 from if_pos rfl, Int.mul_one]
theorem zd_mat_of (x : ln_V) : ln_eq p (N * N) (zd_mat N (zd_of N x)) x := fun q hq => by
  obtain ⟨h1, h2, h3⟩ := zd_ix hq
  show nn_eq p (zd_of N x (ln_e (q % N)) (q / N)) (x q)
  rw [zd_e x h1, h3]
  exact nn_eq_rfl p _
theorem zd_mat_congr (h : ∀ u, ln_eq p N (φ u) (ψ u)) : ln_eq p (N * N) (zd_mat N φ) (zd_mat N ψ) := fun q hq => h _ _ (zd_ix hq).2.1
theorem zd_lmat (h : zl_lin p N N ψ) : zl_lin p (N * N) (N * N) (fun x => zd_mat N (fun u => ψ (zd_of N x (φ u)))) := by
  have l : ∀ u, zl_lin p (N * N) N (fun x => ψ (zd_of N x u)) := fun u => zl_comp (zd_lx u) h
  exact ⟨fun x y q hq => (l (φ (ln_e (q % N)))).1 x y _ (zd_ix hq).2.1, fun a x q hq => (l (φ (ln_e (q % N)))).2.1 a x _ (zd_ix hq).2.1, fun x y e q hq => (l (φ (ln_e (q % N)))).2.2 x y e _ (zd_ix hq).2.1⟩
theorem zd_congr (h : ∀ u, ln_eq p N (φ u) (ψ u)) (hd : zd_der p N T φ) : zd_der p N T ψ := fun u v c hc =>
  nn_eq_trans (nn_eq_symm (h _ c hc)) (nn_eq_trans (hd u v c hc) (nn_eq_add (tt_bk_congr (h u) (ln_eq_rfl v) c) (tt_bk_congr (ln_eq_rfl u) (h v) c)))
theorem zd_iso (h : zi_iso p N T T' φ ψ) (hδ : zl_lin p N N δ) (hd : zd_der p N T δ) : zd_der p N T' (fun u => ψ (δ (φ u))) := by
  intro u v c hc
  have e1 : ln_eq p N (ψ (δ (φ (tt_bk p N T' u v)))) (ψ (fun c => tt_bk p N T (δ (φ u)) (φ v) c + tt_bk p N T (φ u) (δ (φ v)) c)) := h.2.1.2.2 _ _ (ln_eq_trans (hδ.2.2 _ _ (h.2.2.2.2 u v)) (hd (φ u) (φ v)))
  have e2 := h.2.1.1 (tt_bk p N T (δ (φ u)) (φ v)) (tt_bk p N T (φ u) (δ (φ v)))
  have a : ∀ x, ln_eq p N (φ (ψ (δ (φ x)))) (δ (φ x)) := fun x => h.2.2.1 _
  have e3 : ln_eq p N (tt_bk p N T' (ψ (δ (φ u))) v) (ψ (tt_bk p N T (δ (φ u)) (φ v))) := ln_eq_trans (zi_bk h _ _) (h.2.1.2.2 _ _ (fun c _ => tt_bk_congr (a u) (ln_eq_rfl _) c))
  have e4 : ln_eq p N (tt_bk p N T' u (ψ (δ (φ v)))) (ψ (tt_bk p N T (φ u) (δ (φ v)))) := ln_eq_trans (zi_bk h _ _) (h.2.1.2.2 _ _ (fun c _ => tt_bk_congr (ln_eq_rfl _) (a v) c))
  exact nn_eq_trans (e1 c hc) (nn_eq_trans (e2 c hc) (nn_eq_symm (nn_eq_add (e3 c hc) (e4 c hc))))
/-! the rules -/
theorem zd_one {w c0 : Nat} (hc : c0 < w) (x : ln_V) (t : Int) : nn_sm w (fun c => x c * (if c = c0 then t else 0)) = x c0 * t := by
  rw [nn_sm_one w c0 hc (fun c _ hne => by rw [if_neg hne, Int.mul_zero]), if_pos rfl]
theorem zd_dot (x : ln_V) {i j r : Nat} (hi : i < N) (hj : j < N) (hr : r < N) : nn_eq p (nn_sm (N * N) (fun c => x c * dv_e p N T i j r c)) (nn_sm N (fun a => x (r * N + a) * T i j a + x (a * N + i) * -(T a j r) + x (a * N + j) * -(T i a r))) := by
  have e1 : nn_eq p (nn_sm (N * N) (fun c => x c * dv_e p N T i j r c)) (nn_sm (N * N) (fun c => x c * dv_p N T i j r N c)) := nn_eq_sm _ (fun c _ => nn_eq_mul (nn_eq_rfl p _) (nn_eq_mod p _))
  refine nn_eq_trans e1 ?_
  have e2 : nn_sm (N * N) (fun c => x c * dv_p N T i j r N c) = nn_sm (N * N) (fun c => nn_sm N (fun a => x c * (((if c = r * N + a then T i j a else 0) + (if c = a * N + i then -(T a j r) else 0)) + (if c = a * N + j then -(T i a r) else 0)))) := nn_sm_congr _ (fun c _ => (nn_sm_mul (x c) N _).symm)
  rw [e2, nn_sm_comm]
  refine nn_eq_sm N (fun a ha => ?_)
  have e3 : nn_sm (N * N) (fun c => x c * (((if c = r * N + a then T i j a else 0) + (if c = a * N + i then -(T a j r) else 0)) + (if c = a * N + j then -(T i a r) else 0))) = nn_sm (N * N) (fun c => (x c * (if c = r * N + a then T i j a else 0) + x c * (if c = a * N + i then -(T a j r) else 0)) + x c * (if c = a * N + j then -(T i a r) else 0)) := nn_sm_congr _ (fun c _ => by rw [Int.mul_add, Int.mul_add])
  rw [e3, nn_sm_add (N * N) (fun c => x c * (if c = r * N + a then T i j a else 0) + x c * (if c = a * N + i then -(T a j r) else 0)) (fun c => x c * (if c = a * N + j then -(T i a r) else 0)), nn_sm_add (N * N) (fun c => x c * (if c = r * N + a then T i j a else 0)) (fun c => x c * (if c = a * N + i then -(T a j r) else 0)), zd_one (dv_ix hr ha), zd_one (dv_ix ha hi), zd_one (dv_ix ha hj)]
  exact nn_eq_rfl p _
theorem zd_bl (ht : tt_ok p N T) (y : ln_V) {j : Nat} (hj : j < N) (r : Nat) : nn_eq p (tt_bk p N T y (ln_e j) r) (nn_sm N (fun a => y a * T a j r)) := by
  refine nn_eq_trans (tt_bk_eq r) (nn_eq_sm N (fun i _ => ?_))
  rw [nn_sm_one N j hj (fun q _ hne => by rw [show ln_e j q = 0 from if_neg hne, Int.mul_zero, Int.zero_mul]), show ln_e j j = 1 from if_pos rfl, Int.mul_one]
  exact nn_eq_rfl p _
theorem zd_br (ht : tt_ok p N T) (y : ln_V) {i : Nat} (hi : i < N) (r : Nat) : nn_eq p (tt_bk p N T (ln_e i) y r) (nn_sm N (fun a => y a * T i a r)) := by
  refine nn_eq_trans (tt_bk_eq r) ?_
  rw [nn_sm_one N i hi (fun q _ hne => nn_sm_0 N (fun a _ => by rw [show ln_e i q = 0 from if_neg hne, Int.zero_mul, Int.zero_mul]))]
  refine nn_eq_sm N (fun a _ => ?_)
  rw [show ln_e i i = 1 from if_pos rfl, Int.one_mul]
  exact nn_eq_rfl p _
theorem zd_rule (ht : tt_ok p N T) (x : ln_V) {i j r : Nat} (hi : i < N) (hj : j < N) (hr : r < N) : nn_eq p (nn_sm (N * N) (fun c => x c * dv_e p N T i j r c)) (zd_E p N T (zd_of N x) (ln_e i) (ln_e j) r) := by
  refine nn_eq_trans (zd_dot x hi hj hr) ?_
  have a1 : nn_eq p (zd_of N x (tt_bk p N T (ln_e i) (ln_e j)) r) (nn_sm N (fun a => x (r * N + a) * T i j a)) := (zd_lin x).2.2 _ _ (ln_eq_symm (zj_T ht hi hj)) r hr
  have a2 := zd_bl ht (zd_of N x (ln_e i)) hj r
  have a3 := zd_br ht (zd_of N x (ln_e j)) hi r
  have b2 : nn_sm N (fun a => zd_of N x (ln_e i) a * T a j r) = nn_sm N (fun a => x (a * N + i) * T a j r) := nn_sm_congr N (fun a _ => by rw [zd_e x hi])
  have b3 : nn_sm N (fun a => zd_of N x (ln_e j) a * T i a r) = nn_sm N (fun a => x (a * N + j) * T i a r) := nn_sm_congr N (fun a _ => by rw [zd_e x hj])
  rw [b2] at a2
  rw [b3] at a3
  have n2 := nn_eq_mul (nn_eq_rfl p (-1)) a2
  have n3 := nn_eq_mul (nn_eq_rfl p (-1)) a3
  have s := nn_eq_add (nn_eq_add a1 n2) n3
  have e : nn_sm N (fun a => x (r * N + a) * T i j a + x (a * N + i) * -(T a j r) + x (a * N + j) * -(T i a r)) = nn_sm N (fun a => x (r * N + a) * T i j a) + (-1) * nn_sm N (fun a => x (a * N + i) * T a j r) + (-1) * nn_sm N (fun a => x (a * N + j) * T i a r) := by
    rw [← nn_sm_mul, ← nn_sm_mul, ← nn_sm_add, ← nn_sm_add]
    refine nn_sm_congr N (fun a _ => ?_)
    rw [Int.mul_neg, Int.mul_neg, Int.neg_mul, Int.neg_mul, Int.one_mul, Int.one_mul]
  rw [e]
  refine nn_eq_symm ?_
  unfold zd_E
  rw [show ∀ q : Int, -q = (-1) * q from fun q => by omega, show -(tt_bk p N T (ln_e i) (zd_of N x (ln_e j)) r) = (-1) * tt_bk p N T (ln_e i) (zd_of N x (ln_e j)) r by omega]
  exact s
theorem zd_Eder : (∀ u v c, c < N → nn_eq p (zd_E p N T δ u v c) 0) ↔ zd_der p N T δ := by
  have key : ∀ a b d : Int, nn_eq p (a + -b + -d) 0 ↔ nn_eq p a (b + d) := fun a b d => by
    unfold nn_eq
    rw [show a + -b + -d - 0 = a - (b + d) by omega]
  exact ⟨fun h u v c hc => (key _ _ _).mp (h u v c hc), fun h u v c hc => (key _ _ _).mpr (h u v c hc)⟩
theorem zd_Elin (hδ : zl_lin p N N δ) (u : ln_V) : zl_lin p N N (fun v => zd_E p N T δ u v) ∧ zl_lin p N N (fun v => zd_E p N T δ v u) :=
  ⟨zl_add (zl_add (zl_comp (zl_bkr u) hδ) (zl_neg (zl_bkr (δ u)))) (zl_neg (zl_comp hδ (zl_bkr u))), zl_add (zl_add (zl_comp (zl_bkl u) hδ) (zl_neg (zl_comp hδ (zl_bkl u)))) (zl_neg (zl_bkl (δ u)))⟩
theorem zd_Eanti (ht : tt_ok p N T) (hδ : zl_lin p N N δ) (u v : ln_V) (c : Nat) (hc : c < N) : nn_eq p (zd_E p N T δ v u c) (-(zd_E p N T δ u v c)) := by
  have h1 : ln_eq p N (tt_bk p N T v u) (fun q => (-1) * tt_bk p N T u v q) := fun q _ => by
    show nn_eq p _ ((-1) * tt_bk p N T u v q)
    rw [show (-1) * tt_bk p N T u v q = -(tt_bk p N T u v q) by omega]
    exact tt_bk_anti ht u v q
  have h2 := nn_eq_trans (hδ.2.2 _ _ h1 c hc) (hδ.2.1 (-1) (tt_bk p N T u v) c hc)
  have h3 := nn_eq_mul (nn_eq_rfl p (-1)) (tt_bk_anti ht u (δ v) c)
  have h4 := nn_eq_mul (nn_eq_rfl p (-1)) (tt_bk_anti ht (δ u) v c)
  have h5 := nn_eq_add (nn_eq_add h2 h3) h4
  have e1 : zd_E p N T δ v u c = δ (tt_bk p N T v u) c + (-1) * tt_bk p N T (δ v) u c + (-1) * tt_bk p N T v (δ u) c := by unfold zd_E; omega
  have e2 : -(zd_E p N T δ u v c) = (-1) * δ (tt_bk p N T u v) c + (-1) * -(tt_bk p N T u (δ v) c) + (-1) * -(tt_bk p N T (δ u) v c) := by unfold zd_E; omega
  rw [e1, e2]
  exact h5
theorem zd_Eself (ht : tt_ok p N T) (hδ : zl_lin p N N δ) (u : ln_V) (c : Nat) (hc : c < N) : nn_eq p (zd_E p N T δ u u c) 0 := by
  have h1 : tt_bk p N T u u = fun _ => 0 := funext fun q => tt_bk_self ht u q
  have h2 := zl_0 hδ c hc
  have h3 := nn_eq_mul (nn_eq_rfl p (-1)) (tt_bk_anti ht (δ u) u c)
  have h5 := nn_eq_add (nn_eq_add h2 (nn_eq_rfl p (-(tt_bk p N T (δ u) u c)))) h3
  unfold zd_E
  rw [h1, show -(tt_bk p N T u (δ u) c) = (-1) * tt_bk p N T u (δ u) c by omega]
  refine nn_eq_trans h5 ?_
  show nn_eq p (0 + -(tt_bk p N T (δ u) u c) + (-1) * -(tt_bk p N T (δ u) u c)) 0
  rw [show 0 + -(tt_bk p N T (δ u) u c) + (-1) * -(tt_bk p N T (δ u) u c) = 0 by omega]
  exact nn_eq_rfl p 0
theorem zd_rules (ht : tt_ok p N T) (x : ln_V) : (∀ i j r, i < j → j < N → r < N → nn_eq p (nn_sm (N * N) (fun c => x c * dv_e p N T i j r c)) 0) ↔ zd_der p N T (zd_of N x) := by
  rw [← zd_Eder]
  have hδ := zd_lin (p := p) (N := N) x
  constructor
  · intro h
    have base : ∀ i j, i < j → j < N → ∀ c, c < N → nn_eq p (zd_E p N T (zd_of N x) (ln_e i) (ln_e j) c) 0 := fun i j h1 h2 c hc => nn_eq_trans (nn_eq_symm (zd_rule ht x (by omega) h2 hc)) (h i j c h1 h2 hc)
    have all : ∀ i j, i < N → j < N → ∀ c, c < N → nn_eq p (zd_E p N T (zd_of N x) (ln_e i) (ln_e j) c) 0 := by
      intro i j hi hj
      rcases Nat.lt_trichotomy i j with e | e | e
      · exact base i j e hj
      · subst e; exact zd_Eself ht hδ _
      · intro c hc
        have h9 := nn_eq_sub (nn_eq_rfl p 0) (base j i e hi c hc)
        rw [show (0 : Int) - zd_E p N T (zd_of N x) (ln_e j) (ln_e i) c = -(zd_E p N T (zd_of N x) (ln_e j) (ln_e i) c) by omega] at h9
        exact nn_eq_trans (zd_Eanti ht hδ _ _ c hc) h9
    intro u v
    exact zl_all (zd_Elin hδ v).2 (fun i hi => zl_all (zd_Elin hδ (ln_e i)).1 (fun j hj => all i j hi hj) v) u
  · intro h i j r h1 h2 h3
    exact nn_eq_trans (zd_rule ht x (by omega) h2 h3) (h _ _ r h3)
theorem zd_dim (ht : tt_ok p N T) (a : an_de p N T z) : ∃ k : Nat, zq_dim p (N * N) (fun x => zd_der p N T (zd_of N x)) k ∧ z = k := by
  obtain ⟨hp, -⟩ := id ht
  obtain ⟨R, r, hg, e⟩ := a
  obtain ⟨k, hk⟩ := zq_ex hp (ln_ker_sub2 (p := p) (w := N * N) R)
  have h1 := zq_ker hp r hk
  refine ⟨k, zq_iff (fun x => ?_) hk, by omega⟩
  rw [zr_gen (G := fun K => ∀ i j r, i < j → j < N → r < N → K (dv_e p N T i j r)) hg x]
  exact zd_rules ht x
theorem zi_de (ht : tt_ok p N T) (ht' : tt_ok p N T') (h : zi_iso p N T T' φ ψ) (a : an_de p N T z) (a' : an_de p N T' z') : z' = z := by
  obtain ⟨hp, -⟩ := id ht
  obtain ⟨k, hk, e⟩ := zd_dim ht a
  obtain ⟨k', hk', e'⟩ := zd_dim ht' a'
  have key : ∀ {T T' : Nat → Nat → Nat → Int} {φ ψ : ln_V → ln_V}, zi_iso p N T T' φ ψ → ∀ x, zd_der p N T (zd_of N x) → zd_der p N T' (zd_of N (zd_mat N (fun u => ψ (zd_of N x (φ u))))) := fun h x hd =>
    zd_congr (fun u => ln_eq_symm (zd_of_mat (zl_comp (zl_comp h.1 (zd_lin x)) h.2.1) u)) (zd_iso h (zd_lin x) hd)
  have inv : ∀ {T T' : Nat → Nat → Nat → Int} {φ ψ : ln_V → ln_V}, zi_iso p N T T' φ ψ → ∀ x, ln_eq p (N * N) (zd_mat N (fun u => φ (zd_of N (zd_mat N (fun u => ψ (zd_of N x (φ u)))) (ψ u)))) x := fun h x => by
    refine ln_eq_trans (zd_mat_congr (fun u => ?_)) (zd_mat_of x)
    refine ln_eq_trans (h.1.2.2 _ _ (zd_of_mat (zl_comp (zl_comp h.1 (zd_lin x)) h.2.1) _)) ?_
    exact ln_eq_trans (h.2.2.1 _) ((zd_lin x).2.2 _ _ (h.2.2.1 u))
  rw [e, e', zq_iso hp (φ := fun x => zd_mat N (fun u => φ (zd_of N x (ψ u)))) (ψ := fun x => zd_mat N (fun u => ψ (zd_of N x (φ u)))) (zd_lmat h.1) (zd_lmat h.2.1) (inv h) (inv (zi_symm h)) (key (zi_symm h)) (key h) hk' hk]
/-- as many derivations as inner ones -/
theorem zd_inner (ht : tt_ok p N T) (hJ : zj_all p N T) (a : an_de p N T z) (a' : an_cd p N T z') : (N : Int) - z' ≤ z := by
  obtain ⟨hp, -⟩ := id ht
  obtain ⟨k, hk, e⟩ := zd_dim ht a
  obtain ⟨R, r, e'⟩ := a'
  have hα : zl_lin p N (N * N) (fun u => zd_mat N (fun x => tt_bk p N T u x)) := ⟨fun u v q _ => tt_bk_add_l u v _ _, fun b u q _ => tt_bk_mul_l b u _ _, fun u v h q _ => tt_bk_congr h (ln_eq_rfl _) _⟩
  have hI : ln_sub p (N * N) (fun y => ∃ u, ln_eq p (N * N) y (zd_mat N (fun x => tt_bk p N T u x))) := by
    refine ⟨⟨fun _ => 0, ln_eq_symm (zl_0 hα)⟩, ?_, ?_, ?_⟩
    · rintro x y ⟨u, hu⟩ ⟨v, hv⟩
      exact ⟨_, ln_eq_trans (fun c hc => nn_eq_add (hu c hc) (hv c hc)) (ln_eq_symm (hα.1 u v))⟩
    · rintro b x ⟨u, hu⟩
      exact ⟨_, ln_eq_trans (fun c hc => nn_eq_mul (nn_eq_rfl p b) (hu c hc)) (ln_eq_symm (hα.2.1 b u))⟩
    · rintro x y h ⟨u, hu⟩
      exact ⟨u, ln_eq_trans (ln_eq_symm h) hu⟩
  obtain ⟨i, hi⟩ := zq_ex hp hI
  have h1 := zq_rn2 hp hα ⟨R, r, rfl⟩ (fun u hu => (zi_cen_iff u).mpr (fun v => zl_all (zl_bkr u) (fun b hb c hc => by
    have h9 := hu (c * N + b) (dv_ix hc hb)
    have h9 : nn_eq p (zd_mat N (fun x => tt_bk p N T u x) (c * N + b)) 0 := h9
    rw [zd_at hb] at h9
    exact h9) v)) hi (fun u => ⟨u, ln_eq_rfl _⟩) (fun y h => h)
  have h2 : i ≤ k := zq_le hp hi hk (fun y => by
    rintro ⟨u, hu⟩
    refine zd_congr (φ := fun x => tt_bk p N T u x) (fun x => ?_) ?_
    · exact ln_eq_trans (ln_eq_symm (zd_of_mat (zl_bkr u) x)) ((zd_lx x).2.2 _ _ (ln_eq_symm hu))
    · intro v w c hc
      have h9 := nn_eq_add (zj_ad ht hJ u v w c hc) (nn_eq_rfl p (tt_bk p N T v (tt_bk p N T u w) c))
      rw [show tt_bk p N T u (tt_bk p N T v w) c - tt_bk p N T v (tt_bk p N T u w) c + tt_bk p N T v (tt_bk p N T u w) c = tt_bk p N T u (tt_bk p N T v w) c by omega] at h9
      exact nn_eq_symm h9)
  omega
end ZDE
