/-! linear maps: of brackets, put together; traces -/
section ZLM
variable {p : Int} {w v N : Nat} {T T' : Nat → Nat → Nat → Int} {φ ψ χ : ln_V → ln_V}
theorem zl_bkr (u : ln_V) : zl_lin p N N (fun x => tt_bk p N T u x) :=
  ⟨fun x y c _ => tt_bk_add_r u x y c, fun a x c _ => tt_bk_mul_r a u x c, fun x y h c _ => tt_bk_congr (ln_eq_rfl u) h c⟩
theorem zl_bkl (u : ln_V) : zl_lin p N N (fun x => tt_bk p N T x u) :=
  ⟨fun x y c _ => tt_bk_add_l x y u c, fun a x c _ => tt_bk_mul_l a x u c, fun x y h c _ => tt_bk_congr h (ln_eq_rfl u) c⟩
theorem zl_comp {m : Nat} (h1 : zl_lin p w m φ) (h2 : zl_lin p m v ψ) : zl_lin p w v (fun x => ψ (φ x)) :=
  ⟨fun x y => ln_eq_trans (h2.2.2 _ _ (h1.1 x y)) (h2.1 (φ x) (φ y)), fun a x => ln_eq_trans (h2.2.2 _ _ (h1.2.1 a x)) (h2.2.1 a (φ x)), fun x y h => h2.2.2 _ _ (h1.2.2 x y h)⟩
theorem zl_add (h1 : zl_lin p w v φ) (h2 : zl_lin p w v ψ) : zl_lin p w v (fun x c => φ x c + ψ x c) := by
  refine ⟨fun x y c hc => ?_, fun a x c hc => ?_, fun x y h c hc => nn_eq_add (h1.2.2 x y h c hc) (h2.2.2 x y h c hc)⟩
  · have h9 := nn_eq_add (h1.1 x y c hc) (h2.1 x y c hc)
    show nn_eq p _ (φ x c + ψ x c + (φ y c + ψ y c))
    rw [show φ x c + ψ x c + (φ y c + ψ y c) = φ x c + φ y c + (ψ x c + ψ y c) by omega]
    exact h9
  · have h9 := nn_eq_add (h1.2.1 a x c hc) (h2.2.1 a x c hc)
    show nn_eq p _ (a * (φ x c + ψ x c))
    rw [Int.mul_add]
    exact h9
theorem zl_neg (h1 : zl_lin p w v φ) : zl_lin p w v (fun x c => -(φ x c)) := by
  refine ⟨fun x y c hc => ?_, fun a x c hc => ?_, fun x y h c hc => ?_⟩
  · have h9 := nn_eq_sub (nn_eq_rfl p 0) (h1.1 x y c hc)
    show nn_eq p (-(φ (fun c => x c + y c) c)) (-(φ x c) + -(φ y c))
    rw [show -(φ (fun c => x c + y c) c) = 0 - φ (fun c => x c + y c) c by omega, show -(φ x c) + -(φ y c) = 0 - (φ x c + φ y c) by omega]
    exact h9
  · have h9 := nn_eq_sub (nn_eq_rfl p 0) (h1.2.1 a x c hc)
    show nn_eq p (-(φ (fun c => a * x c) c)) (a * -(φ x c))
    rw [Int.mul_neg, show -(φ (fun c => a * x c) c) = 0 - φ (fun c => a * x c) c by omega, show -(a * φ x c) = 0 - a * φ x c by omega]
    exact h9
  · have h9 := nn_eq_sub (nn_eq_rfl p 0) (h1.2.2 x y h c hc)
    show nn_eq p (-(φ x c)) (-(φ y c))
    rw [show -(φ x c) = 0 - φ x c by omega, show -(φ y c) = 0 - φ y c by omega]
    exact h9
/-- what is 0 -/
theorem zl_zsub : ln_sub p w (fun x => ∀ c, c < w → nn_eq p (x c) 0) := by
  refine ⟨fun c _ => nn_eq_rfl p 0, fun x y hx hy c hc => ?_, fun a x hx c hc => ?_, fun x y h hx c hc => nn_eq_trans (nn_eq_symm (h c hc)) (hx c hc)⟩
  · have h9 := nn_eq_add (hx c hc) (hy c hc)
    exact h9
  · have h9 := nn_eq_mul (nn_eq_rfl p a) (hx c hc)
    rw [Int.mul_zero] at h9
    exact h9
theorem zl_z (h : zl_lin p w v φ) {x : ln_V} (hx : ∀ c, c < w → nn_eq p (x c) 0) : ∀ c, c < v → nn_eq p (φ x c) 0 := fun c hc => nn_eq_trans (h.2.2 x (fun _ => 0) (fun q hq => hx q hq) c hc) (zl_0 h c hc)
/-- zero at the basis, zero -/
theorem zl_all (h : zl_lin p N v φ) (hz : ∀ i, i < N → ∀ c, c < v → nn_eq p (φ (ln_e i) c) 0) (x : ln_V) : ∀ c, c < v → nn_eq p (φ x c) 0 := ln_e_all (N := N) (W := fun x => ∀ c, c < v → nn_eq p (φ x c) 0) (zl_pre h zl_zsub) hz x
theorem zl_ex (x : ln_V) : ln_eq p N x (fun c => nn_sm N (fun r => x r * ln_e r c)) := ln_in_e x
/-- a linear map by its columns -/
theorem zl_mat (h : zl_lin p N v φ) (x : ln_V) : ln_eq p v (φ x) (fun c => nn_sm N (fun r => x r * φ (ln_e r) c)) := ln_eq_trans (h.2.2 _ _ (zl_ex x)) (zl_sm h ln_e x N)
/-- the trace -/
def zt_r (N : Nat) (φ : ln_V → ln_V) : Int := nn_sm N (fun j => φ (ln_e j) j)
theorem zt_comm (h1 : zl_lin p N N φ) (h2 : zl_lin p N N ψ) : nn_eq p (zt_r N (fun x => φ (ψ x))) (zt_r N (fun x => ψ (φ x))) := by
  have e1 : nn_eq p (zt_r N (fun x => φ (ψ x))) (nn_sm N (fun j => nn_sm N (fun r => ψ (ln_e j) r * φ (ln_e r) j))) := nn_eq_sm N (fun j hj => zl_mat h1 (ψ (ln_e j)) j hj)
  have e2 : nn_eq p (zt_r N (fun x => ψ (φ x))) (nn_sm N (fun j => nn_sm N (fun r => φ (ln_e j) r * ψ (ln_e r) j))) := nn_eq_sm N (fun j hj => zl_mat h2 (φ (ln_e j)) j hj)
  refine nn_eq_trans e1 (nn_eq_trans ?_ (nn_eq_symm e2))
  rw [nn_sm_comm]
  exact nn_eq_sm N (fun r _ => nn_eq_sm N (fun j _ => by rw [Int.mul_comm]; exact nn_eq_rfl p _))
theorem zt_congr (h : ∀ x, ln_eq p N (φ x) (ψ x)) : nn_eq p (zt_r N φ) (zt_r N ψ) := nn_eq_sm N (fun j hj => h (ln_e j) j hj)
theorem zt_add : zt_r N (fun x c => φ x c + ψ x c) = zt_r N φ + zt_r N ψ := nn_sm_add N _ _
theorem zt_sub (h : ∀ x, ln_eq p N (χ x) (fun c => φ x c - ψ x c)) : nn_eq p (zt_r N χ) (zt_r N φ - zt_r N ψ) := by
  refine nn_eq_trans (zt_congr h) ?_
  have e : zt_r N (fun x c => φ x c - ψ x c) = zt_r N φ - zt_r N ψ := by
    have e2 : nn_sm N (fun j => φ (ln_e j) j) = nn_sm N (fun j => (φ (ln_e j) j - ψ (ln_e j) j) + ψ (ln_e j) j) := nn_sm_congr N (fun j _ => by omega)
    have e3 := nn_sm_add N (fun j => φ (ln_e j) j - ψ (ln_e j) j) (fun j => ψ (ln_e j) j)
    show nn_sm N (fun j => φ (ln_e j) j - ψ (ln_e j) j) = nn_sm N (fun j => φ (ln_e j) j) - nn_sm N (fun j => ψ (ln_e j) j)
    rw [e2, e3]
    omega
  rw [e]
  exact nn_eq_rfl p _
/-- the Killing form -/
theorem zk_tr (u v : ln_V) : nn_eq p (tr_v p N T u v) (zt_r N (fun x => tt_bk p N T u (tt_bk p N T v x))) := nn_eq_mod p _
theorem zk_sym (hp : 0 < p) (u v : ln_V) : tr_v p N T u v = tr_v p N T v u := by
  have h9 := nn_eq_trans (zk_tr (p := p) (N := N) (T := T) u v) (nn_eq_trans (zt_comm (zl_bkr u) (zl_bkr v)) (nn_eq_symm (zk_tr v u)))
  exact nn_eq_red h9 ⟨Int.emod_nonneg _ (by omega), Int.emod_lt_of_pos _ hp⟩ ⟨Int.emod_nonneg _ (by omega), Int.emod_lt_of_pos _ hp⟩
theorem zk_add (u u' v : ln_V) : nn_eq p (tr_v p N T (fun c => u c + u' c) v) (tr_v p N T u v + tr_v p N T u' v) := by
  refine nn_eq_trans (zk_tr _ _) (nn_eq_trans ?_ (nn_eq_symm (nn_eq_add (zk_tr u v) (zk_tr u' v))))
  rw [← zt_add]
  exact zt_congr (fun x c _ => tt_bk_add_l u u' (tt_bk p N T v x) c)
theorem zk_mul (a : Int) (u v : ln_V) : nn_eq p (tr_v p N T (fun c => a * u c) v) (a * tr_v p N T u v) := by
  refine nn_eq_trans (zk_tr _ _) (nn_eq_trans ?_ (nn_eq_symm (nn_eq_mul (nn_eq_rfl p a) (zk_tr u v))))
  have e : a * zt_r N (fun x => tt_bk p N T u (tt_bk p N T v x)) = zt_r N (fun x c => a * tt_bk p N T u (tt_bk p N T v x) c) := (nn_sm_mul a N _).symm
  rw [e]
  exact zt_congr (fun x c _ => tt_bk_mul_l a u (tt_bk p N T v x) c)
theorem zk_congr {u u' v v' : ln_V} (hu : ln_eq p N u u') (hv : ln_eq p N v v') : nn_eq p (tr_v p N T u v) (tr_v p N T u' v') := by
  refine nn_eq_trans (zk_tr _ _) (nn_eq_trans (zt_congr (fun x => ?_)) (nn_eq_symm (zk_tr u' v')))
  exact fun c _ => tt_bk_congr hu (fun q _ => tt_bk_congr hv (ln_eq_rfl x) q) c
theorem zk_lin (y : ln_V) : zl_lin p N 1 (fun x _ => tr_v p N T y x) ∧ zl_lin p N 1 (fun x _ => tr_v p N T x y) := by
  have h2 : zl_lin p N 1 (fun x _ => tr_v p N T x y) := ⟨fun a b c _ => zk_add a b y, fun a x c _ => zk_mul a x y, fun a b h c _ => zk_congr h (ln_eq_rfl y)⟩
  have sy : ∀ a b : ln_V, nn_eq p (tr_v p N T a b) (tr_v p N T b a) := fun a b => nn_eq_trans (zk_tr a b) (nn_eq_trans (zt_comm (zl_bkr a) (zl_bkr b)) (nn_eq_symm (zk_tr b a)))
  refine ⟨⟨fun a b c hc => ?_, fun a x c hc => ?_, fun a b h c hc => zk_congr (ln_eq_rfl y) h⟩, h2⟩
  · exact nn_eq_trans (sy _ _) (nn_eq_trans (h2.1 a b c hc) (nn_eq_add (sy a y) (sy b y)))
  · exact nn_eq_trans (sy _ _) (nn_eq_trans (h2.2.1 a x c hc) (nn_eq_mul (nn_eq_rfl p a) (sy x y)))
/-! the Jacobi identity -/
def zj_J (p : Int) (N : Nat) (T : Nat → Nat → Nat → Int) (u v w : ln_V) (c : Nat) : Int := tt_bk p N T u (tt_bk p N T v w) c + tt_bk p N T v (tt_bk p N T w u) c + tt_bk p N T w (tt_bk p N T u v) c
def zj_all (p : Int) (N : Nat) (T : Nat → Nat → Nat → Int) : Prop := ∀ u v w c, c < N → nn_eq p (zj_J p N T u v w c) 0
theorem zj_cyc (u v w : ln_V) (c : Nat) : zj_J p N T u v w c = zj_J p N T v w u c := by
  unfold zj_J
  omega
theorem zj_lin (u v : ln_V) : zl_lin p N N (fun w => zj_J p N T u v w) := zl_add (zl_add (zl_comp (zl_bkr v) (zl_bkr u)) (zl_comp (zl_bkl u) (zl_bkr v))) (zl_bkl (tt_bk p N T u v))
theorem zj_swp (ht : tt_ok p N T) (u v w : ln_V) (c : Nat) : nn_eq p (zj_J p N T v u w c) (-(zj_J p N T u v w c)) := by
  have a : ∀ a b d : ln_V, nn_eq p (tt_bk p N T a (tt_bk p N T b d) c) (-(tt_bk p N T a (tt_bk p N T d b) c)) := fun a b d => by
    have h1 : ln_eq p N (tt_bk p N T b d) (fun q => (-1) * tt_bk p N T d b q) := fun q _ => by
      show nn_eq p _ ((-1) * tt_bk p N T d b q)
      rw [show (-1) * tt_bk p N T d b q = -(tt_bk p N T d b q) by omega]
      exact tt_bk_anti ht d b q
    have h2 := nn_eq_trans (tt_bk_congr (T := T) (ln_eq_rfl a) h1 c) (tt_bk_mul_r (-1) a (tt_bk p N T d b) c)
    rw [show (-1) * tt_bk p N T a (tt_bk p N T d b) c = -(tt_bk p N T a (tt_bk p N T d b) c) by omega] at h2
    exact h2
  have h := nn_eq_add (nn_eq_add (a v u w) (a u w v)) (a w v u)
  unfold zj_J
  rw [show -(tt_bk p N T u (tt_bk p N T v w) c + tt_bk p N T v (tt_bk p N T w u) c + tt_bk p N T w (tt_bk p N T u v) c) = -(tt_bk p N T v (tt_bk p N T w u) c) + -(tt_bk p N T u (tt_bk p N T v w) c) + -(tt_bk p N T w (tt_bk p N T u v) c) by omega]
  exact h
theorem zj_two (ht : tt_ok p N T) (u w : ln_V) (c : Nat) : nn_eq p (zj_J p N T u u w c) 0 := by
  have h1 : ln_eq p N (tt_bk p N T u w) (fun q => (-1) * tt_bk p N T w u q) := fun q _ => by
    show nn_eq p _ ((-1) * tt_bk p N T w u q)
    rw [show (-1) * tt_bk p N T w u q = -(tt_bk p N T w u q) by omega]
    exact tt_bk_anti ht w u q
  have h2 := nn_eq_trans (tt_bk_congr (T := T) (ln_eq_rfl u) h1 c) (tt_bk_mul_r (-1) u (tt_bk p N T w u) c)
  have e : tt_bk p N T u u = fun _ => 0 := funext fun q => tt_bk_self ht u q
  have h3 := nn_eq_add h2 (nn_eq_rfl p (tt_bk p N T u (tt_bk p N T w u) c))
  unfold zj_J
  rw [e, tt_bk_0r, Int.add_zero]
  rw [show (-1) * tt_bk p N T u (tt_bk p N T w u) c + tt_bk p N T u (tt_bk p N T w u) c = 0 by omega] at h3
  exact h3
theorem zj_T (ht : tt_ok p N T) {j k : Nat} (hj : j < N) (hk : k < N) : ln_eq p N (T j k) (tt_bk p N T (ln_e j) (ln_e k)) := fun c _ => by
  refine nn_eq_symm (nn_eq_trans (tt_bk_eq c) ?_)
  rw [nn_sm_one N j hj (fun i _ hne => nn_sm_0 N (fun q _ => by rw [show ln_e j i = 0 from if_neg hne, Int.zero_mul, Int.zero_mul])), nn_sm_one N k hk (fun q _ hne => by rw [show ln_e k q = 0 from if_neg hne, Int.mul_zero, Int.zero_mul]), show ln_e j j = 1 from if_pos rfl, show ln_e k k = 1 from if_pos rfl, Int.one_mul, Int.one_mul]
  exact nn_eq_rfl p _
theorem zj_s (ht : tt_ok p N T) {i j k : Nat} (hi : i < N) (hj : j < N) (hk : k < N) (c : Nat) : nn_eq p (jc_s p N T i j k c) (zj_J p N T (ln_e i) (ln_e j) (ln_e k) c) := by
  refine nn_eq_trans (nn_eq_mod p _) (nn_eq_add (nn_eq_add ?_ ?_) ?_)
  · exact tt_bk_congr (ln_eq_rfl _) (zj_T ht hj hk) c
  · exact tt_bk_congr (ln_eq_rfl _) (zj_T ht hk hi) c
  · exact tt_bk_congr (ln_eq_rfl _) (zj_T ht hi hj) c
theorem zj_jf (ht : tt_ok p N T) : jf_d p N T N 0 0 ↔ zj_all p N T := by
  obtain ⟨hp, h1N, hN, hT, -⟩ := id ht
  have hp1 := (nn_p_pos hp).1
  have rg : ∀ i j k c : Nat, 0 ≤ jc_s p N T i j k c ∧ jc_s p N T i j k c < p := fun i j k c => ⟨Int.emod_nonneg _ (by omega), Int.emod_lt_of_pos _ hp1⟩
  constructor
  · intro h
    have base : ∀ i j k, i < j → j < k → k < N → ∀ c, c < N → nn_eq p (zj_J p N T (ln_e i) (ln_e j) (ln_e k) c) 0 := fun i j k h1 h2 h3 c hc => by
      have h9 := h i j k h1 h2 h3 (Or.inl (by omega))
      have h8 := nn_nm_inj hp1 (n := N) (f := jc_s p N T i j k) (g := fun _ => 0) (fun c _ => rg i j k c) (fun c _ => ⟨Int.le_refl 0, hp1⟩) (by rw [h9, nn_nm_eq0 N (fun _ _ => rfl)]) c hc
      have h7 := zj_s ht (show i < N by omega) (show j < N by omega) h3 c
      rw [h8] at h7
      exact nn_eq_symm h7
    have cyc : ∀ u v w : ln_V, (∀ c, c < N → nn_eq p (zj_J p N T u v w c) 0) → ∀ c, c < N → nn_eq p (zj_J p N T v w u c) 0 := fun u v w h c hc => by
      rw [← zj_cyc]
      exact h c hc
    have swp : ∀ u v w : ln_V, (∀ c, c < N → nn_eq p (zj_J p N T u v w c) 0) → ∀ c, c < N → nn_eq p (zj_J p N T v u w c) 0 := fun u v w h c hc => by
      have h9 := nn_eq_sub (nn_eq_rfl p 0) (h c hc)
      rw [show (0 : Int) - zj_J p N T u v w c = -(zj_J p N T u v w c) by omega] at h9
      exact nn_eq_trans (zj_swp ht u v w c) h9
    have all : ∀ i j k, i < N → j < N → k < N → ∀ c, c < N → nn_eq p (zj_J p N T (ln_e i) (ln_e j) (ln_e k) c) 0 := by
      intro i j k hi hj hk
      by_cases e1 : i = j
      · subst e1; exact fun c _ => zj_two ht _ _ c
      by_cases e2 : j = k
      · subst e2; exact cyc _ _ _ (cyc _ _ _ (fun c _ => zj_two ht _ _ c))
      by_cases e3 : i = k
      · subst e3; exact cyc _ _ _ (fun c _ => zj_two ht _ _ c)
      by_cases l1 : i < j
      · by_cases l2 : j < k
        · exact base i j k l1 l2 hk
        · by_cases l3 : i < k
          · exact cyc _ _ _ (cyc _ _ _ (swp _ _ _ (cyc _ _ _ (base i k j l3 (by omega) hj))))
          · exact cyc _ _ _ (base k i j (by omega) l1 hj)
      · by_cases l2 : i < k
        · exact swp _ _ _ (base j i k (by omega) l2 hk)
        · by_cases l3 : j < k
          · exact cyc _ _ _ (cyc _ _ _ (base j k i l3 (by omega) hi))
          · exact cyc _ _ _ (cyc _ _ _ (swp _ _ _ (base k j i (by omega) (by omega) hi)))
    have a1 : ∀ i j, i < N → j < N → ∀ w c, c < N → nn_eq p (zj_J p N T (ln_e i) (ln_e j) w c) 0 := fun i j hi hj w => zl_all (zj_lin (ln_e i) (ln_e j)) (fun k hk => all i j k hi hj hk) w
    have a2 : ∀ i, i < N → ∀ w v c, c < N → nn_eq p (zj_J p N T w (ln_e i) v c) 0 := fun i hi w v => zl_all (zj_lin w (ln_e i)) (fun k hk => cyc _ _ _ (cyc _ _ _ (a1 i k hi hk w))) v
    intro u v w
    exact zl_all (zj_lin u v) (fun k hk => cyc _ _ _ (cyc _ _ _ (a2 k hk v u))) w
  · intro h i j k h1 h2 h3 _
    refine nn_nm_eq0 N (fun c hc => ?_)
    exact nn_eq_red (nn_eq_trans (zj_s ht (by omega) (by omega) h3 c) (h _ _ _ c hc)) (rg i j k c) ⟨Int.le_refl 0, hp1⟩
theorem zl_sub (h : zl_lin p w v φ) (x y : ln_V) : ln_eq p v (φ (fun c => x c - y c)) (fun c => φ x c - φ y c) := by
  intro c hc
  have e : (fun c => x c - y c) = fun c => x c + (-1) * y c := funext fun c => by omega
  rw [e]
  have h1 := nn_eq_trans (h.1 x (fun c => (-1) * y c) c hc) (nn_eq_add (nn_eq_rfl p (φ x c)) (h.2.1 (-1) y c hc))
  show nn_eq p _ (φ x c - φ y c)
  rw [show φ x c - φ y c = φ x c + (-1) * φ y c by omega]
  exact h1
theorem zj_ad (ht : tt_ok p N T) (hJ : zj_all p N T) (a b x : ln_V) : ln_eq p N (tt_bk p N T (tt_bk p N T a b) x) (fun c => tt_bk p N T a (tt_bk p N T b x) c - tt_bk p N T b (tt_bk p N T a x) c) := by
  intro c hc
  have h1 : nn_eq p (tt_bk p N T a (tt_bk p N T b x) c + tt_bk p N T b (tt_bk p N T x a) c + tt_bk p N T x (tt_bk p N T a b) c) 0 := hJ a b x c hc
  have h2 := tt_bk_anti ht (tt_bk p N T a b) x c
  have h3 : ln_eq p N (tt_bk p N T x a) (fun q => (-1) * tt_bk p N T a x q) := fun q _ => by
    show nn_eq p _ ((-1) * tt_bk p N T a x q)
    rw [show (-1) * tt_bk p N T a x q = -(tt_bk p N T a x q) by omega]
    exact tt_bk_anti ht a x q
  have h4 := nn_eq_trans (tt_bk_congr (T := T) (ln_eq_rfl b) h3 c) (tt_bk_mul_r (-1) b (tt_bk p N T a x) c)
  have h5 := nn_eq_trans (nn_eq_symm (nn_eq_add (nn_eq_add (nn_eq_rfl p (tt_bk p N T a (tt_bk p N T b x) c)) h4) h2)) h1
  refine nn_eq_symm ?_
  show nn_eq p (tt_bk p N T a (tt_bk p N T b x) c - tt_bk p N T b (tt_bk p N T a x) c) (tt_bk p N T (tt_bk p N T a b) x c)
  unfold nn_eq at h5 ⊢
  rw [show tt_bk p N T a (tt_bk p N T b x) c + (-1) * tt_bk p N T b (tt_bk p N T a x) c + -(tt_bk p N T (tt_bk p N T a b) x c) - 0 = tt_bk p N T a (tt_bk p N T b x) c - tt_bk p N T b (tt_bk p N T a x) c - tt_bk p N T (tt_bk p N T a b) x c by omega] at h5
  exact h5
/-- with the Jacobi identity the Killing form may be moved -/
theorem zk_inv (hp : 0 < p) (ht : tt_ok p N T) (hJ : zj_all p N T) (u v w : ln_V) : tr_v p N T (tt_bk p N T u v) w = tr_v p N T u (tt_bk p N T v w) := by
  have h1 := zt_sub (p := p) (N := N) (χ := fun x => tt_bk p N T (tt_bk p N T u v) (tt_bk p N T w x)) (φ := fun x => tt_bk p N T u (tt_bk p N T v (tt_bk p N T w x))) (ψ := fun x => tt_bk p N T v (tt_bk p N T u (tt_bk p N T w x))) (fun x => zj_ad ht hJ u v (tt_bk p N T w x))
  have h2 := zt_sub (p := p) (N := N) (χ := fun x => tt_bk p N T u (tt_bk p N T (tt_bk p N T v w) x)) (φ := fun x => tt_bk p N T u (tt_bk p N T v (tt_bk p N T w x))) (ψ := fun x => tt_bk p N T u (tt_bk p N T w (tt_bk p N T v x))) (fun x => ln_eq_trans ((zl_bkr u).2.2 _ _ (zj_ad ht hJ v w x)) (zl_sub (zl_bkr u) _ _))
  have h3 := zt_comm (φ := fun x => tt_bk p N T v x) (ψ := fun x => tt_bk p N T u (tt_bk p N T w x)) (zl_bkr (p := p) v) (zl_comp (zl_bkr w) (zl_bkr u))
  have h4 := nn_eq_trans (zk_tr (p := p) (N := N) (T := T) (tt_bk p N T u v) w) (nn_eq_trans h1 (nn_eq_trans (nn_eq_sub (nn_eq_rfl p _) h3) (nn_eq_symm (nn_eq_trans (zk_tr (p := p) (N := N) (T := T) u (tt_bk p N T v w)) h2))))
  exact nn_eq_red h4 ⟨Int.emod_nonneg _ (by omega), Int.emod_lt_of_pos _ hp⟩ ⟨Int.emod_nonneg _ (by omega), Int.emod_lt_of_pos _ hp⟩
end ZLM
