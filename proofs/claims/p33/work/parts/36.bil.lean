/-! the bracket is bilinear; the leads by number -/
section BIL
variable {p : Int} {N : Nat} {T : Nat → Nat → Nat → Int}
theorem tt_bk_congr {u u' v v' : ln_V} (hu : ln_eq p N u u') (hv : ln_eq p N v v') (k : Nat) : nn_eq p (tt_bk p N T u v k) (tt_bk p N T u' v' k) := by
  refine nn_eq_trans (nn_eq_mod p _) (nn_eq_trans ?_ (nn_eq_symm (nn_eq_mod p _)))
  exact nn_eq_sm N (fun i hi => nn_eq_sm N (fun j hj => nn_eq_mul (nn_eq_mul (hu i hi) (hv j hj)) (nn_eq_rfl p _)))
theorem tt_bk_eq {u v : ln_V} (k : Nat) : nn_eq p (tt_bk p N T u v k) (nn_sm N (fun i => nn_sm N (fun j => u i * v j * T i j k))) := nn_eq_mod p _
theorem tt_bk_add_r (u v v' : ln_V) (k : Nat) : nn_eq p (tt_bk p N T u (fun c => v c + v' c) k) (tt_bk p N T u v k + tt_bk p N T u v' k) := by
  refine nn_eq_trans (tt_bk_eq k) (nn_eq_trans ?_ (nn_eq_symm (nn_eq_add (tt_bk_eq k) (tt_bk_eq k))))
  rw [← nn_sm_add]
  refine nn_eq_sm N (fun i _ => ?_)
  rw [← nn_sm_add]
  refine nn_eq_sm N (fun j _ => ?_)
  rw [Int.mul_add, Int.add_mul]
  exact nn_eq_rfl p _
theorem tt_bk_add_l (u u' v : ln_V) (k : Nat) : nn_eq p (tt_bk p N T (fun c => u c + u' c) v k) (tt_bk p N T u v k + tt_bk p N T u' v k) := by
  refine nn_eq_trans (tt_bk_eq k) (nn_eq_trans ?_ (nn_eq_symm (nn_eq_add (tt_bk_eq k) (tt_bk_eq k))))
  rw [← nn_sm_add]
  refine nn_eq_sm N (fun i _ => ?_)
  rw [← nn_sm_add]
  refine nn_eq_sm N (fun j _ => ?_)
  rw [Int.add_mul, Int.add_mul]
  exact nn_eq_rfl p _
theorem tt_bk_mul_r (a : Int) (u v : ln_V) (k : Nat) : nn_eq p (tt_bk p N T u (fun c => a * v c) k) (a * tt_bk p N T u v k) := by
  refine nn_eq_trans (tt_bk_eq k) (nn_eq_trans ?_ (nn_eq_symm (nn_eq_mul (nn_eq_rfl p a) (tt_bk_eq k))))
  rw [← nn_sm_mul]
  refine nn_eq_sm N (fun i _ => ?_)
  rw [← nn_sm_mul]
  refine nn_eq_sm N (fun j _ => ?_)
  rw [Int.mul_left_comm (u i) a (v j), Int.mul_assoc a]
  exact nn_eq_rfl p _
theorem tt_bk_mul_l (a : Int) (u v : ln_V) (k : Nat) : nn_eq p (tt_bk p N T (fun c => a * u c) v k) (a * tt_bk p N T u v k) := by
  refine nn_eq_trans (tt_bk_eq k) (nn_eq_trans ?_ (nn_eq_symm (nn_eq_mul (nn_eq_rfl p a) (tt_bk_eq k))))
  rw [← nn_sm_mul]
  refine nn_eq_sm N (fun i _ => ?_)
  rw [← nn_sm_mul]
  refine nn_eq_sm N (fun j _ => ?_)
  rw [Int.mul_assoc a, Int.mul_assoc a]
  exact nn_eq_rfl p _
theorem tt_bk_0r (u : ln_V) (k : Nat) : tt_bk p N T u (fun _ => 0) k = 0 := by
  unfold tt_bk
  rw [nn_sm_0 N (fun i _ => nn_sm_0 N (fun j _ => by rw [Int.mul_zero, Int.zero_mul])), Int.zero_emod]
theorem tt_bk_0l (v : ln_V) (k : Nat) : tt_bk p N T (fun _ => 0) v k = 0 := by
  unfold tt_bk
  rw [nn_sm_0 N (fun i _ => nn_sm_0 N (fun j _ => by rw [Int.zero_mul, Int.zero_mul])), Int.zero_emod]
theorem tt_sub_r {W : ln_P} (hW : ln_sub p N W) (u : ln_V) : ln_sub p N (fun v => W (tt_bk p N T u v)) := by
  refine ⟨hW.2.2.2 _ _ (fun c _ => by rw [tt_bk_0r]; exact nn_eq_rfl p 0) hW.1, fun x y hx hy => ?_, fun a x hx => ?_, fun x y e hx => ?_⟩
  · exact hW.2.2.2 _ _ (fun c _ => nn_eq_symm (tt_bk_add_r u x y c)) (hW.2.1 _ _ hx hy)
  · exact hW.2.2.2 _ _ (fun c _ => nn_eq_symm (tt_bk_mul_r a u x c)) (hW.2.2.1 a _ hx)
  · exact hW.2.2.2 _ _ (fun c _ => tt_bk_congr (ln_eq_rfl u) e c) hx
theorem tt_sub_l {W : ln_P} (hW : ln_sub p N W) (v : ln_V) : ln_sub p N (fun u => W (tt_bk p N T u v)) := by
  refine ⟨hW.2.2.2 _ _ (fun c _ => by rw [tt_bk_0l]; exact nn_eq_rfl p 0) hW.1, fun x y hx hy => ?_, fun a x hx => ?_, fun x y e hx => ?_⟩
  · exact hW.2.2.2 _ _ (fun c _ => nn_eq_symm (tt_bk_add_l x y v c)) (hW.2.1 _ _ hx hy)
  · exact hW.2.2.2 _ _ (fun c _ => nn_eq_symm (tt_bk_mul_l a x v c)) (hW.2.2.1 a _ hx)
  · exact hW.2.2.2 _ _ (fun c _ => tt_bk_congr e (ln_eq_rfl v) c) hx
/-- from the leads' rows to all of both -/
theorem tt_bil {W : ln_P} (hW : ln_sub p N W) {L R : Nat → ln_V} (hL : ln_R p N L) (hR : ln_R p N R) (h : ∀ r q, r < N → q < N → L r r ≠ 0 → R q q ≠ 0 → W (tt_bk p N T (L r) (R q))) {u v : ln_V} (hu : ln_in p N L u) (hv : ln_in p N R v) : W (tt_bk p N T u v) := by
  have zr : ∀ {R : Nat → ln_V}, ln_R p N R → ∀ q, q < N → R q q = 0 → ln_eq p N (fun _ => 0) (R q) := fun hR q hq h0 c hc => by
    rw [ln_R_zero hR hq hc h0]
    exact nn_eq_rfl p 0
  have h1 : ∀ r, r < N → W (tt_bk p N T (L r) v) := fun r hr => by
    by_cases h0 : L r r = 0
    · exact (tt_sub_l hW v).2.2.2 _ _ (zr hL r hr h0) (tt_sub_l hW v).1
    · refine ln_in_W (tt_sub_r hW (L r)) (fun q hq => ?_) hv
      by_cases h2 : R q q = 0
      · exact (tt_sub_r hW (L r)).2.2.2 _ _ (zr hR q hq h2) (tt_sub_r hW (L r)).1
      · exact h r q hr hq h0 h2
  exact ln_in_W (tt_sub_l hW v) h1 hu
theorem tt_bk_rg (hp : 0 < p) (u v : ln_V) (k : Nat) : 0 ≤ tt_bk p N T u v k ∧ tt_bk p N T u v k < p := ⟨Int.emod_nonneg _ (by omega), Int.emod_lt_of_pos _ hp⟩
theorem ln_ct_mono {R : Nat → ln_V} : ∀ (m r : Nat), ln_ct R r ≤ ln_ct R (r + m)
  | 0, _ => Nat.le_refl _
  | m + 1, r => by
    have := ln_ct_mono (R := R) m r
    show _ ≤ ln_ct R (r + m) + _
    omega
theorem ln_ct_lt {R : Nat → ln_V} {r q : Nat} (h : r < q) (hl : R r r ≠ 0) : ln_ct R r < ln_ct R q := by
  obtain ⟨m, rfl⟩ := Nat.exists_eq_add_of_lt h
  have := ln_ct_mono (R := R) m (r + 1)
  have e : ln_ct R (r + 1) = ln_ct R r + 1 := by
    show ln_ct R r + _ = _
    rw [if_neg hl]
  rw [show r + m + 1 = r + 1 + m by omega]
  omega
theorem ln_ct_inj {R : Nat → ln_V} {r q : Nat} (hr : R r r ≠ 0) (hq : R q q ≠ 0) (h : ln_ct R r = ln_ct R q) : r = q := by
  rcases Nat.lt_trichotomy r q with z | z | z
  · have := ln_ct_lt z hr; omega
  · exact z
  · have := ln_ct_lt z hq; omega
end BIL
