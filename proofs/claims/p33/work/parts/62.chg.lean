/-! changes of the basis are isomorphisms; changed back -/
/-- rows put together -/
def zb_f (N : Nat) (F : Nat → ln_V) : ln_V → ln_V := fun x c => nn_sm N (fun k => x k * F k c)
section ZCH
variable {p : Int} {v N : Nat} {T T' : Nat → Nat → Nat → Int} {φ ψ : ln_V → ln_V} {F G F' G' : Nat → ln_V}
theorem zl_same (h1 : zl_lin p N v φ) (h2 : zl_lin p N v ψ) (h : ∀ i, i < N → ln_eq p v (φ (ln_e i)) (ψ (ln_e i))) (x : ln_V) : ln_eq p v (φ x) (ψ x) :=
  ln_eq_trans (zl_mat h1 x) (ln_eq_trans (fun c hc => nn_eq_sm N (fun r hr => nn_eq_mul (nn_eq_rfl p _) (h r hr c hc))) (ln_eq_symm (zl_mat h2 x)))
theorem zb_lin : zl_lin p N N (zb_f N F) := by
  refine ⟨fun x y c _ => ?_, fun a x c _ => ?_, fun x y h c _ => nn_eq_sm N (fun k hk => nn_eq_mul (h k hk) (nn_eq_rfl p _))⟩
  · show nn_eq p (nn_sm N (fun k => (x k + y k) * F k c)) (nn_sm N (fun k => x k * F k c) + nn_sm N (fun k => y k * F k c))
    rw [← nn_sm_add]
    refine nn_eq_sm N (fun k _ => ?_)
    rw [Int.add_mul]
    exact nn_eq_rfl p _
  · show nn_eq p (nn_sm N (fun k => a * x k * F k c)) (a * nn_sm N (fun k => x k * F k c))
    rw [← nn_sm_mul]
    refine nn_eq_sm N (fun k _ => ?_)
    rw [Int.mul_assoc]
    exact nn_eq_rfl p _
theorem zb_e {i : Nat} (hi : i < N) : ln_eq p N (zb_f N F (ln_e i)) (F i) := fun c _ => by
  show nn_eq p (nn_sm N (fun k => ln_e i k * F k c)) (F i c)
  rw [nn_sm_one N i hi (fun k _ hne => by rw [show ln_e i k = 0 from if_neg hne, Int.zero_mul]), show ln_e i i = 1 from if_pos rfl, Int.one_mul]
  exact nn_eq_rfl p _
theorem zb_inv (h : ∀ k, k < N → ln_eq p N (zb_f N F (G k)) (ln_e k)) (y : ln_V) : ln_eq p N (zb_f N F (zb_f N G y)) y :=
  zl_same (φ := fun y => zb_f N F (zb_f N G y)) (ψ := fun y => y) (zl_comp zb_lin zb_lin) ⟨fun x y => ln_eq_rfl _, fun a x => ln_eq_rfl _, fun x y h => h⟩ (fun i hi => ln_eq_trans (zb_lin.2.2 _ _ (zb_e hi)) (h i hi)) y
theorem zb_iso (ht : tt_ok p N T) (h1 : ∀ k, k < N → ln_eq p N (zb_f N F (G k)) (ln_e k)) (h2 : ∀ k, k < N → ln_eq p N (zb_f N G (F k)) (ln_e k)) : zi_iso p N T (ch_T p N T F G) (zb_f N F) (zb_f N G) := by
  refine ⟨zb_lin, zb_lin, zb_inv h1, zb_inv h2, fun u v => ?_⟩
  have ht' := ch_ok ht F G
  have e : ln_eq p N (tt_bk p N (ch_T p N T F G) u v) (zb_f N G (tt_bk p N T (zb_f N F u) (zb_f N F v))) := by
    refine zl_same (φ := fun u => tt_bk p N (ch_T p N T F G) u v) (ψ := fun u => zb_f N G (tt_bk p N T (zb_f N F u) (zb_f N F v))) (zl_bkl v) (zl_comp (zl_comp zb_lin (zl_bkl (zb_f N F v))) zb_lin) (fun i hi => ?_) u
    refine zl_same (φ := fun v => tt_bk p N (ch_T p N T F G) (ln_e i) v) (ψ := fun v => zb_f N G (tt_bk p N T (zb_f N F (ln_e i)) (zb_f N F v))) (zl_bkr (ln_e i)) (zl_comp (zl_comp zb_lin (zl_bkr (zb_f N F (ln_e i)))) zb_lin) (fun j hj => ?_) v
    refine ln_eq_trans (ln_eq_symm (zj_T ht' hi hj)) ?_
    have e1 : ln_eq p N (ch_T p N T F G i j) (zb_f N G (tt_bk p N T (F i) (F j))) := fun c hc => by
      unfold ch_T
      rw [if_pos ⟨hi, hj, hc⟩]
      exact nn_eq_mod p _
    refine ln_eq_trans e1 (zb_lin.2.2 _ _ (fun c _ => ?_))
    exact tt_bk_congr (ln_eq_symm (zb_e hi)) (ln_eq_symm (zb_e hj)) c
  exact ln_eq_trans (zb_lin.2.2 _ _ e) (zb_inv h1 _)
/-- a table by its brackets -/
theorem zb_same (ht : tt_ok p N T) (ht' : tt_ok p N T') (h : ∀ i j, i < N → j < N → ln_eq p N (T' i j) (T i j)) : T' = T := by
  funext i j k
  by_cases e : i < N ∧ j < N ∧ k < N
  · exact nn_eq_red (h i j e.1 e.2.1 k e.2.2) (ht'.2.2.2.1 i j k) (ht.2.2.2.1 i j k)
  · rw [ht.2.2.2.2.1 i j k (by omega), ht'.2.2.2.2.1 i j k (by omega)]
/-- changed, and changed back -/
theorem zb_back (ht : tt_ok p N T) (h1 : ∀ k, k < N → ln_eq p N (zb_f N F (G k)) (ln_e k)) (h2 : ∀ k, k < N → ln_eq p N (zb_f N G (F k)) (ln_e k)) (h3 : ∀ k, k < N → ln_eq p N (zb_f N F' (G' k)) (ln_e k)) (h4 : ∀ k, k < N → ln_eq p N (zb_f N F (F' k)) (ln_e k)) : ch_T p N (ch_T p N T F G) F' G' = T := by
  have ht' := ch_ok ht F G
  refine zb_same ht (ch_ok ht' F' G') (fun i j hi hj => ?_)
  have iso := zb_iso ht h1 h2
  have e1 : ln_eq p N (ch_T p N (ch_T p N T F G) F' G' i j) (zb_f N G' (tt_bk p N (ch_T p N T F G) (F' i) (F' j))) := fun c hc => by
    unfold ch_T
    rw [if_pos ⟨hi, hj, hc⟩]
    exact nn_eq_mod p _
  have e2 : ∀ y, ln_eq p N (zb_f N G' y) (zb_f N F y) := fun y => by
    have a := zb_inv (F := F) (G := F') h4 (zb_f N G' y)
    have b := zb_lin (p := p) (F := F).2.2 _ _ (zb_inv h3 y)
    exact ln_eq_trans (ln_eq_symm a) b
  refine ln_eq_trans e1 (ln_eq_trans (e2 _) (ln_eq_trans (iso.2.2.2.2 _ _) ?_))
  exact ln_eq_trans (fun c _ => tt_bk_congr (h4 i hi) (h4 j hj) c) (ln_eq_symm (zj_T ht hi hj))
/-! the three changes -/
theorem zb_two {I J : Nat} (hI : I < N) (hJ : J < N) (a : Int) : ln_eq p N (zb_f N F (fun c => ln_e I c + a * ln_e J c)) (fun c => F I c + a * F J c) := fun c hc =>
  nn_eq_trans (zb_lin.1 (ln_e I) (fun c => a * ln_e J c) c hc) (nn_eq_add (zb_e hI c hc) (nn_eq_trans (zb_lin.2.1 a (ln_e J) c hc) (nn_eq_mul (nn_eq_rfl p a) (zb_e hJ c hc))))
theorem zb_add {I J : Nat} (hI : I < N) (hJ : J < N) (hne : I ≠ J) {a b : Int} (hab : nn_eq p (a + b) 0) : ∀ k, k < N → ln_eq p N (zb_f N (ch_u I (fun c => ln_e I c + a * ln_e J c)) (ch_u I (fun c => ln_e I c + b * ln_e J c) k)) (ln_e k) := by
  intro k hk
  by_cases e : k = I
  · subst e
    rw [show ch_u k (fun c => ln_e k c + b * ln_e J c) k = fun c => ln_e k c + b * ln_e J c from if_pos rfl]
    refine ln_eq_trans (zb_two hI hJ b) (fun c _ => ?_)
    rw [show ch_u k (fun c => ln_e k c + a * ln_e J c) k = fun c => ln_e k c + a * ln_e J c from if_pos rfl, show ch_u k (fun c => ln_e k c + a * ln_e J c) J = ln_e J from if_neg (Ne.symm hne)]
    show nn_eq p (ln_e k c + a * ln_e J c + b * ln_e J c) (ln_e k c)
    have h9 := nn_eq_add (nn_eq_rfl p (ln_e k c)) (nn_eq_mul hab (nn_eq_rfl p (ln_e J c)))
    rw [Int.add_mul, Int.zero_mul, Int.add_zero, ← Int.add_assoc] at h9
    exact h9
  · rw [show ch_u I (fun c => ln_e I c + b * ln_e J c) k = ln_e k from if_neg e]
    refine ln_eq_trans (zb_e hk) ?_
    rw [show ch_u I (fun c => ln_e I c + a * ln_e J c) k = ln_e k from if_neg e]
    exact ln_eq_rfl _
theorem zb_scl {I : Nat} (hI : I < N) {a b : Int} (hab : nn_eq p (a * b) 1) : ∀ k, k < N → ln_eq p N (zb_f N (ch_u I (fun c => a * ln_e I c)) (ch_u I (fun c => b * ln_e I c) k)) (ln_e k) := by
  intro k hk
  by_cases e : k = I
  · subst e
    rw [show ch_u k (fun c => b * ln_e k c) k = fun c => b * ln_e k c from if_pos rfl]
    refine ln_eq_trans (zb_lin.2.1 b (ln_e k)) (fun c hc => ?_)
    have h1 := zb_e (p := p) (F := ch_u k (fun c => a * ln_e k c)) hI c hc
    rw [show ch_u k (fun c => a * ln_e k c) k = fun c => a * ln_e k c from if_pos rfl] at h1
    have h2 := nn_eq_mul (nn_eq_rfl p b) h1
    refine nn_eq_trans h2 ?_
    show nn_eq p (b * (a * ln_e k c)) (ln_e k c)
    have h9 := nn_eq_mul hab (nn_eq_rfl p (ln_e k c))
    rw [Int.one_mul, Int.mul_comm a b, Int.mul_assoc] at h9
    exact h9
  · rw [show ch_u I (fun c => b * ln_e I c) k = ln_e k from if_neg e]
    refine ln_eq_trans (zb_e hk) ?_
    rw [show ch_u I (fun c => a * ln_e I c) k = ln_e k from if_neg e]
    exact ln_eq_rfl _
theorem zb_swp {I J : Nat} (hI : I < N) (hJ : J < N) (hne : I ≠ J) : ∀ k, k < N → ln_eq p N (zb_f N (ch_x I J) (ch_x I J k)) (ln_e k) ∧ ln_eq p N (zb_f N (ch_x I J) (ch_x J I k)) (ln_e k) := by
  have hx : ∀ k, ch_x I J k = ch_x J I k := fun k => by
    unfold ch_x
    by_cases e1 : k = J
    · rw [if_pos e1, if_neg (by omega), if_pos e1]
    · rw [if_neg e1]
      by_cases e2 : k = I
      · rw [if_pos e2, if_pos e2]
      · rw [if_neg e2, if_neg e2, if_neg e1]
  have key : ∀ k, k < N → ln_eq p N (zb_f N (ch_x I J) (ch_x I J k)) (ln_e k) := by
    intro k hk
    by_cases e1 : k = J
    · subst e1
      rw [show ch_x I k k = ln_e I from if_pos rfl]
      refine ln_eq_trans (zb_e hI) ?_
      rw [show ch_x I k I = ln_e k by unfold ch_x; rw [if_neg hne, if_pos rfl]]
      exact ln_eq_rfl _
    · by_cases e2 : k = I
      · subst e2
        rw [show ch_x k J k = ln_e J by unfold ch_x; rw [if_neg e1, if_pos rfl]]
        refine ln_eq_trans (zb_e hJ) ?_
        rw [show ch_x k J J = ln_e k from if_pos rfl]
        exact ln_eq_rfl _
      · have e3 : ch_x I J k = ln_e k := by unfold ch_x; rw [if_neg e1, if_neg e2]
        rw [e3]
        refine ln_eq_trans (zb_e hk) ?_
        rw [e3]
        exact ln_eq_rfl _
  exact fun k hk => ⟨key k hk, by rw [← hx]; exact key k hk⟩
end ZCH
