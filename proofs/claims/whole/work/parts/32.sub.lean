/-! Subspace: cells, rows -/
section SUBS
variable {X : pj_X} {Q : pj_Q}
abbrev c_S (C b p w sz : pj_V) : pj_C := .inr (5, [C, b, p, w, sz])
theorem sb_ix {C r c : Nat} (hr : r ≤ C) (hc : c < C) : r * C + c < (C + 1) * C := by
  have h1 : r * C ≤ C * C := Nat.mul_le_mul_right C hr
  rw [Nat.add_mul]
  omega
theorem sb_ne {C r c r' c' : Nat} (hc : c < C) (hc' : c' < C) (h : r * C + c = r' * C + c') : r = r' ∧ c = c' := by
  have h1 : (r * C + c) / C = r := by rw [Nat.add_comm, Nat.add_mul_div_right _ _ (by omega), Nat.div_eq_of_lt hc, Nat.zero_add]
  have h2 : (r' * C + c') / C = r' := by rw [Nat.add_comm, Nat.add_mul_div_right _ _ (by omega), Nat.div_eq_of_lt hc', Nat.zero_add]
  have h3 : r = r' := by rw [← h1, h, h2]
  subst h3
  exact ⟨rfl, by omega⟩
theorem sb_sq {C : Nat} (hC : C ≤ 25) : (C + 1) * C ≤ 650 := by
  have : (C + 1) * C ≤ 26 * 25 := Nat.mul_le_mul (by omega) hC
  omega
theorem sb_rc {C r : Nat} (hC : C ≤ 25) (hr : r ≤ C) : r * C ≤ 625 := by
  have : r * C ≤ 25 * 25 := Nat.mul_le_mul (by omega) hC
  omega
theorem c_cell {C : Nat} {f : Nat → Int} {r c : Int} {r0 c0 : Nat} (hC : C ≤ 25) (hr : r = r0) (hc : c = c0) (hr0 : r0 ≤ C) (hc0 : c0 < C) (hQ : Q (some (.inl (f (r0 * C + c0)))) [c_S (.inl (C : Int)) (.inr 1) v_u v_u v_u, c_A ((C + 1) * C) f]) : pj_ci X m_Subspace_cell [.inr 0, .inl r, .inl c] [c_S (.inl (C : Int)) (.inr 1) v_u v_u v_u, c_A ((C + 1) * C) f] Q := by
  have h1 := sb_ix hr0 hc0
  have h2 := sb_sq hC
  have h3 : r * (C : Int) + c = ((r0 * C + c0 : Nat) : Int) := by rw [hr, hc]; simp
  refine wp_b rfl (by omega) (fun k => absurd k (by omega)) (fun k => ?_)
  refine wp_b rfl (by omega) (fun k => absurd k (by omega)) (fun k => ?_)
  refine wp_r rfl (by omega) ?_
  rw [h3, Int.toNat_natCast]
  exact hQ
theorem c_hasLead {C : Nat} {f : Nat → Int} {c : Int} {c0 : Nat} (hC : C ≤ 25) (hc : c = c0) (hc0 : c0 < C) (hf : pj_rg (f (c0 * C + c0))) (h1 : f (c0 * C + c0) ≠ 0 → Q (some (.inl 1)) [c_S (.inl (C : Int)) (.inr 1) v_u v_u v_u, c_A ((C + 1) * C) f]) (h0 : f (c0 * C + c0) = 0 → Q (some (.inl 0)) [c_S (.inl (C : Int)) (.inr 1) v_u v_u v_u, c_A ((C + 1) * C) f]) : pj_ci X m_Subspace_hasLead [.inr 0, .inl c] [c_S (.inl (C : Int)) (.inr 1) v_u v_u v_u, c_A ((C + 1) * C) f] Q := by
  have e1 := sb_ix (r := c0) (c := c0) (C := C) (by omega) hc0
  have e2 := sb_sq hC
  have e3 : c * (C : Int) + c = ((c0 * C + c0 : Nat) : Int) := by rw [hc]; simp
  have e4 : f (Int.toNat (c * (C : Int) + c)) = f (c0 * C + c0) := by rw [e3, Int.toNat_natCast]
  refine wp_b rfl (by omega) (fun k => absurd k (by omega)) (fun k => ?_)
  refine wp_b rfl (by omega) (fun k => absurd k (by omega)) (fun k => ?_)
  refine wp_b rfl (by rw [e4]; omega) (fun k => ?_) (fun k => ?_)
  · exact wp_r rfl (by omega) (h0 (by rw [← e4]; exact k))
  · exact wp_r rfl (by omega) (h1 (by rw [← e4]; exact k))
theorem sb_xor {x y : Int} (hx : pj_rg x) (hy : pj_rg y) (hy0 : 0 ≤ y) : pj_xor x y < 0 ↔ x < 0 := by
  have h1 : pj_xor x y = (Int32.ofInt x ^^^ Int32.ofInt y).toBitVec.toInt := rfl
  have key : ∀ b : BitVec 32, b.toInt < 0 ↔ b.msb = true := fun b => by
    rw [BitVec.msb_eq_toInt]
    simp
  have h2 : (Int32.ofInt y).toBitVec.msb = false := by
    cases hz : (Int32.ofInt y).toBitVec.msb with
    | false => rfl
    | true =>
      have := (key _).mpr hz
      have h5 : (Int32.ofInt y).toBitVec.toInt = y := pj_i32 hy
      omega
  rw [h1, key, Int32.toBitVec_xor, BitVec.msb_xor, h2, Bool.xor_false, ← key]
  have h5 : (Int32.ofInt x).toBitVec.toInt = x := pj_i32 hx
  rw [h5]
/-- Math.floorMod -/
theorem c_floorMod {x y : Int} (hx : pj_rg x) (hy : 0 < y ∧ y ≤ 1000000) (hQ : Q (some (.inl (x % y))) []) : pj_ci X m_Math_floorMod [.inl x, .inl y] [] Q := by
  obtain ⟨hx1, hx2⟩ := hx
  have h3 := Int.emod_lt_of_pos x hy.1
  have h4 := Int.emod_nonneg x (show y ≠ 0 by omega)
  obtain ⟨t1, t2⟩ := nn_tmod (x := x) hy.1
  have hr : -2147483648 ≤ x.tmod y ∧ x.tmod y ≤ 2147483647 := by
    by_cases h : 0 ≤ x.tmod y
    · have := t1 h; omega
    · have := t2 h; omega
  have hxo := sb_xor (x := x) (y := y) ⟨hx1, hx2⟩ ⟨by omega, by omega⟩ (by omega)
  have hxr : -2147483648 ≤ pj_xor x y ∧ pj_xor x y ≤ 2147483647 := by
    have a := Int32.le_toInt (Int32.ofInt x ^^^ Int32.ofInt y)
    have b := Int32.toInt_lt (Int32.ofInt x ^^^ Int32.ofInt y)
    show -2147483648 ≤ (Int32.ofInt x ^^^ Int32.ofInt y).toInt ∧ (Int32.ofInt x ^^^ Int32.ofInt y).toInt ≤ 2147483647
    omega
  refine wp_b rfl (by omega) (fun k => ?_) (fun k => ?_)
  · refine wp_r rfl (by omega) ?_
    have hx0 : 0 ≤ x := by
      rcases Int.lt_or_le x 0 with z | z
      · have := hxo.mpr z; omega
      · exact z
    rw [Int.tmod_eq_emod_of_nonneg hx0]
    exact hQ
  · refine wp_b rfl (by omega) (fun k2 => ?_) (fun k2 => ?_)
    · refine wp_r rfl (by omega) ?_
      rw [t1 (by omega)]
      exact hQ
    · have hx0 : x < 0 := hxo.mp (by omega)
      have hneg : ¬ 0 ≤ x.tmod y := by
        intro z
        have h6 : x.tmod y ≤ 0 := by
          have := Int.tmod_nonneg (a := -x) y (by omega)
          rw [Int.neg_tmod] at this
          omega
        omega
      refine wp_r rfl (by omega) ?_
      rw [t2 hneg]
      exact hQ
theorem c_addIncoming {C : Nat} {f : Nat → Int} {p w c x : Int} {c0 W : Nat} (hC : C ≤ 25) (hp : nn_p p) (hw : w = W) (hW : W ≤ C) (hc : c = c0) (hc0 : c0 < W) (hf : 0 ≤ f (C * C + c0) ∧ f (C * C + c0) < p) (hx : -1000000 ≤ x ∧ x ≤ 1000000)
    (hQ : Q none [c_S (.inl (C : Int)) (.inr 1) (.inl p) (.inl w) v_u, c_A ((C + 1) * C) (pj_up f (C * C + c0) ((f (C * C + c0) + x) % p))]) : pj_ci X m_Subspace_addIncoming [.inr 0, .inl c, .inl x] [c_S (.inl (C : Int)) (.inr 1) (.inl p) (.inl w) v_u, c_A ((C + 1) * C) f] Q := by
  obtain ⟨hp1, hp2, hp3⟩ := nn_p_pos hp
  have h1 := sb_ix (Nat.le_refl C) (show c0 < C by omega)
  have h2 := sb_sq hC
  have h3 : (C : Int) * (C : Int) + c = ((C * C + c0 : Nat) : Int) := by rw [hc]; simp
  refine wp_b rfl (by omega) (fun k => absurd k (by omega)) (fun k => ?_)
  refine wp_b rfl (by omega) (fun k => absurd k (by omega)) (fun k => ?_)
  refine wp_b rfl (by omega) (fun k => absurd k (by omega)) (fun k => ?_)
  refine wp_b rfl (by omega) (fun k => absurd k (by omega)) (fun k => ?_)
  have e : ((C : Int) * (C : Int) + c).toNat = C * C + c0 := by rw [h3, Int.toNat_natCast]
  refine wp_c rfl (by omega) [] (c_floorMod (by unfold pj_rg; rw [e]; omega) (by omega) ?_) rfl rfl rfl rfl
  refine wp_r rfl (by omega) ?_
  show Q none [c_S (.inl (C : Int)) (.inr 1) (.inl p) (.inl w) v_u, c_A ((C + 1) * C) (pj_up f ((C : Int) * (C : Int) + c).toNat ((f ((C : Int) * (C : Int) + c).toNat + x) % p))]
  rw [e]
  exact hQ
end SUBS
