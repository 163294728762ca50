/-! isomorphisms: what they keep -/
/-- φ takes T' to T, ψ takes it back -/
def zi_iso (p : Int) (N : Nat) (T T' : Nat → Nat → Nat → Int) (φ ψ : ln_V → ln_V) : Prop := zl_lin p N N φ ∧ zl_lin p N N ψ ∧ (∀ y, ln_eq p N (φ (ψ y)) y) ∧ (∀ x, ln_eq p N (ψ (φ x)) x) ∧ ∀ u v, ln_eq p N (φ (tt_bk p N T' u v)) (tt_bk p N T (φ u) (φ v))
section ZIS
variable {p : Int} {N : Nat} {T T' : Nat → Nat → Nat → Int} {φ ψ : ln_V → ln_V} {z z' : Int}
theorem zi_bk (h : zi_iso p N T T' φ ψ) (u v : ln_V) : ln_eq p N (tt_bk p N T' u v) (ψ (tt_bk p N T (φ u) (φ v))) := ln_eq_trans (ln_eq_symm (h.2.2.2.1 _)) (h.2.1.2.2 _ _ (h.2.2.2.2 u v))
theorem zi_symm (h : zi_iso p N T T' φ ψ) : zi_iso p N T' T ψ φ := by
  refine ⟨h.2.1, h.1, h.2.2.2.1, h.2.2.1, fun u v => ?_⟩
  have h1 : ln_eq p N (tt_bk p N T u v) (tt_bk p N T (φ (ψ u)) (φ (ψ v))) := fun c _ => tt_bk_congr (ln_eq_symm (h.2.2.1 u)) (ln_eq_symm (h.2.2.1 v)) c
  exact ln_eq_trans (h.2.1.2.2 _ _ h1) (ln_eq_symm (zi_bk h (ψ u) (ψ v)))
/-- the series -/
theorem zi_D (h : zi_iso p N T T' φ ψ) (w : Bool) : ∀ k x, ds_D p N T' w k x → ds_D p N T w k (φ x)
  | 0, _, _ => trivial
  | k + 1, x, hx => hx _ (zl_pre h.1 (ds_D_sub (p := p) (N := N) (T := T) w (k + 1))) (fun u v hu hv => (ds_D_sub (p := p) (N := N) (T := T) w (k + 1)).2.2.2 _ _ (ln_eq_symm (h.2.2.2.2 u v)) (fun K hK h2 => h2 _ _ (hu.imp id (zi_D h w k u)) (zi_D h w k v hv)))
theorem zi_ct (hp : nn_p p) (h : zi_iso p N T T' φ ψ) {U U' : ln_P} (h1 : ∀ x, U' x → U (φ x)) (h2 : ∀ x, U x → U' (ψ x)) {R R' : Nat → ln_V} (hR : ds_is p N R U) (hR' : ds_is p N R' U') : ln_ct R' N = ln_ct R N :=
  zq_iso hp h.1 h.2.1 h.2.2.1 h.2.2.2.1 h1 h2 ⟨R', hR', rfl⟩ ⟨R, hR, rfl⟩
theorem zi_Dct (hp : nn_p p) (h : zi_iso p N T T' φ ψ) {w : Bool} {k : Nat} {R R' : Nat → ln_V} (hR : ds_is p N R (ds_D p N T w k)) (hR' : ds_is p N R' (ds_D p N T' w k)) : ln_ct R' N = ln_ct R N := zi_ct hp h (zi_D h w k) (zi_D (zi_symm h) w k) hR hR'
theorem zi_dd (hp : nn_p p) (h : zi_iso p N T T' φ ψ) {b : Bool} {l : Int} (a : an_dd p N T b l z) (a' : an_dd p N T' b l z') : z' = z := by
  rcases a with ⟨a1, a2⟩ | ⟨a1, R, r, a2⟩ <;> rcases a' with ⟨b1, b2⟩ | ⟨b1, R', r', b2⟩
  · omega
  · exact absurd b1 a1
  · exact absurd a1 b1
  · rw [a2, b2, zi_Dct hp h r r']
theorem zi_ki (hp : nn_p p) (h : zi_iso p N T T' φ ψ) (a : an_ki p N T z) (a' : an_ki p N T' z') : z' = z := by
  rcases a with ⟨R, r, b, c⟩ | ⟨R, R2, r, b, r2, c⟩ <;> rcases a' with ⟨R', r', b', c'⟩ | ⟨R', R2', r', b', r2', c'⟩
  · omega
  · exact absurd (by rw [zi_Dct hp h r r']; exact b) b'
  · exact absurd (by rw [← zi_Dct hp h r r']; exact b') b
  · rw [c, c', zi_Dct hp h r2 r2']
/-- the center -/
theorem zi_cen_iff (x : ln_V) : ds_cen p N T x ↔ ∀ v c, c < N → nn_eq p (tt_bk p N T x v c) 0 := by
  have e : ∀ j k, j < N → nn_eq p (tt_bk p N T x (ln_e j) k) (nn_sm N (fun i => T i j k * x i)) := fun j k hj => by
    refine nn_eq_trans (tt_bk_eq k) (nn_eq_sm N (fun i _ => ?_))
    rw [nn_sm_one N j hj (fun q _ hne => by rw [show ln_e j q = 0 from if_neg hne, Int.mul_zero, Int.zero_mul]), show ln_e j j = 1 from if_pos rfl, Int.mul_one, Int.mul_comm]
    exact nn_eq_rfl p _
  constructor
  · intro h v
    exact zl_all (zl_bkr x) (fun j hj k hk => nn_eq_trans (e j k hj) (h j k hj hk)) v
  · intro h j k hj hk
    exact nn_eq_trans (nn_eq_symm (e j k hj)) (h (ln_e j) k hk)
theorem zi_cen (h : zi_iso p N T T' φ ψ) (x : ln_V) (hx : ds_cen p N T' x) : ds_cen p N T (φ x) := by
  rw [zi_cen_iff] at hx ⊢
  intro v c hc
  have h1 : nn_eq p (tt_bk p N T (φ x) v c) (tt_bk p N T (φ x) (φ (ψ v)) c) := tt_bk_congr (ln_eq_rfl _) (ln_eq_symm (h.2.2.1 v)) c
  exact nn_eq_trans h1 (nn_eq_trans (nn_eq_symm (h.2.2.2.2 x (ψ v) c hc)) (zl_z h.1 (hx (ψ v)) c hc))
theorem zi_cd (hp : nn_p p) (h : zi_iso p N T T' φ ψ) (a : an_cd p N T z) (a' : an_cd p N T' z') : z' = z := by
  obtain ⟨R, r, b⟩ := a
  obtain ⟨R', r', b'⟩ := a'
  rw [b, b', zi_ct hp h (zi_cen h) (zi_cen (zi_symm h)) r r']
/-- the Jacobi identity -/
theorem zi_J (h : zi_iso p N T T' φ ψ) (hJ : zj_all p N T) : zj_all p N T' := by
  intro u v w
  have e : ∀ a b d : ln_V, ln_eq p N (φ (tt_bk p N T' a (tt_bk p N T' b d))) (tt_bk p N T (φ a) (tt_bk p N T (φ b) (φ d))) := fun a b d => ln_eq_trans (h.2.2.2.2 a _) ((zl_bkr (φ a)).2.2 _ _ (h.2.2.2.2 b d))
  have h1 : ln_eq p N (φ (zj_J p N T' u v w)) (zj_J p N T (φ u) (φ v) (φ w)) := fun c hc => by
    have a1 := h.1.1 (fun c => tt_bk p N T' u (tt_bk p N T' v w) c + tt_bk p N T' v (tt_bk p N T' w u) c) (tt_bk p N T' w (tt_bk p N T' u v)) c hc
    have a2 := h.1.1 (tt_bk p N T' u (tt_bk p N T' v w)) (tt_bk p N T' v (tt_bk p N T' w u)) c hc
    exact nn_eq_trans a1 (nn_eq_add (nn_eq_trans a2 (nn_eq_add (e u v w c hc) (e v w u c hc))) (e w u v c hc))
  have h2 : ∀ c, c < N → nn_eq p (φ (zj_J p N T' u v w) c) 0 := fun c hc => nn_eq_trans (h1 c hc) (hJ _ _ _ c hc)
  intro c hc
  exact nn_eq_trans (nn_eq_symm (h.2.2.2.1 (zj_J p N T' u v w) c hc)) (zl_z h.2.1 h2 c hc)
theorem zi_jf (ht : tt_ok p N T) (ht' : tt_ok p N T') (h : zi_iso p N T T' φ ψ) (a : an_jf p N T z) (a' : an_jf p N T' z') : z = -9 ↔ z' = -9 := by
  have k : ∀ {T : Nat → Nat → Nat → Int} {z : Int}, tt_ok p N T → an_jf p N T z → (z = -9 ↔ zj_all p N T) := fun ht a => by
    rw [← zj_jf ht]
    rcases a with ⟨I, J, K, a1, a2, a3, a4, a5, a6⟩ | ⟨a1, a2⟩
    · exact ⟨fun e => by omega, fun e => absurd (e I J K a1 a2 a3 (Or.inl (by omega))) a4⟩
    · exact ⟨fun _ => a1, fun _ => a2⟩
  rw [k ht a, k ht' a']
  exact ⟨zi_J h, zi_J (zi_symm h)⟩
/-- the Killing form -/
theorem zi_kl (h : zi_iso p N T T' φ ψ) (u v : ln_V) : nn_eq p (tr_v p N T' u v) (tr_v p N T (φ u) (φ v)) := by
  refine nn_eq_trans (zk_tr u v) (nn_eq_trans ?_ (nn_eq_symm (zk_tr (φ u) (φ v))))
  have e : ∀ x, ln_eq p N (tt_bk p N T' u (tt_bk p N T' v x)) (ψ (tt_bk p N T (φ u) (tt_bk p N T (φ v) (φ x)))) := fun x => ln_eq_trans (zi_bk h u _) (h.2.1.2.2 _ _ ((zl_bkr (φ u)).2.2 _ _ (h.2.2.2.2 v x)))
  refine nn_eq_trans (zt_congr e) ?_
  refine nn_eq_trans (zt_comm (φ := ψ) (ψ := fun x => tt_bk p N T (φ u) (tt_bk p N T (φ v) (φ x))) h.2.1 (zl_comp (zl_comp h.1 (zl_bkr (φ v))) (zl_bkr (φ u)))) ?_
  exact zt_congr (fun x => (zl_comp (zl_bkr (φ v)) (zl_bkr (φ u))).2.2 _ _ (h.2.2.1 x))
/-- what is generated and what it kills -/
theorem zr_gen {w : Nat} {R : Nat → ln_V} {G : ln_P → Prop} (hg : ∀ K, ln_sub p w K → (ln_g w R K ↔ G K)) (x : ln_V) : ln_ker p w R x ↔ G (fun y => nn_eq p (nn_sm w (fun c => x c * y c)) 0) := by
  rw [← hg _ (ln_dot_sub x)]
  exact ⟨fun h r hr => by
    have h9 := h r hr
    show nn_eq p (nn_sm w (fun c => x c * R r c)) 0
    rw [nn_sm_congr w (fun c _ => Int.mul_comm (x c) (R r c))]
    exact h9, fun h r hr => by
    have h9 : nn_eq p (nn_sm w (fun c => x c * R r c)) 0 := h r hr
    rw [nn_sm_congr w (fun c _ => Int.mul_comm (x c) (R r c))] at h9
    exact h9⟩
theorem ln_ker_sub2 {w : Nat} (R : Nat → ln_V) : ln_sub p w (ln_ker p w R) := ln_ker_sub R
/-- the radical -/
def zr_U (p : Int) (N : Nat) (T : Nat → Nat → Nat → Int) : ln_P := fun x => ∀ y, nn_eq p (tr_v p N T y x) 0
theorem zr_dim (hp : nn_p p) (a : an_kr p N T z) : ∃ k : Nat, zq_dim p N (zr_U p N T) k ∧ z = k := by
  obtain ⟨R, r, hg, e⟩ := a
  obtain ⟨k, hk⟩ := zq_ex hp (ln_ker_sub2 (p := p) (w := N) R)
  have h1 := zq_ker hp r hk
  refine ⟨k, zq_iff (fun x => ?_) hk, by omega⟩
  rw [zr_gen hg x]
  have e1 : ∀ i, nn_eq p (nn_sm N (fun c => x c * kl_r p N T i c)) (tr_v p N T (ln_e i) x) := fun i => nn_eq_symm (zl_mat (zk_lin (p := p) (N := N) (T := T) (ln_e i)).1 x 0 (by omega))
  constructor
  · intro h y
    exact zl_all (v := 1) (zk_lin (p := p) (N := N) (T := T) x).2 (fun i hi c _ => nn_eq_trans (nn_eq_symm (e1 i)) (h i hi)) y 0 (by omega)
  · intro h i hi
    exact nn_eq_trans (e1 i) (h (ln_e i))
theorem zi_U (h : zi_iso p N T T' φ ψ) (x : ln_V) (hx : zr_U p N T' x) : zr_U p N T (φ x) := fun y => by
  have h1 : nn_eq p (tr_v p N T y (φ x)) (tr_v p N T (φ (ψ y)) (φ x)) := zk_congr (ln_eq_symm (h.2.2.1 y)) (ln_eq_rfl _)
  exact nn_eq_trans h1 (nn_eq_trans (nn_eq_symm (zi_kl h (ψ y) x)) (hx (ψ y)))
theorem zi_kr (hp : nn_p p) (h : zi_iso p N T T' φ ψ) (a : an_kr p N T z) (a' : an_kr p N T' z') : z' = z := by
  obtain ⟨k, hk, e⟩ := zr_dim hp a
  obtain ⟨k', hk', e'⟩ := zr_dim hp a'
  rw [e, e', zq_iso hp h.1 h.2.1 h.2.2.1 h.2.2.2.1 (zi_U h) (zi_U (zi_symm h)) hk' hk]
end ZIS
