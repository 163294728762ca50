/-! the law's loop -/
theorem pj_and31 (x : Int) : 0 ≤ pj_and x 31 ∧ pj_and x 31 ≤ 31 := by
  have h : ((Int32.ofInt x).toBitVec &&& (Int32.ofInt 31).toBitVec).toNat ≤ 31 := by
    rw [BitVec.toNat_and]
    exact Nat.le_trans Nat.and_le_right (by decide)
  have e : pj_and x 31 = (((Int32.ofInt x).toBitVec &&& (Int32.ofInt 31).toBitVec).toNat : Int) := by
    show ((Int32.ofInt x).toBitVec &&& (Int32.ofInt 31).toBitVec).toInt = _
    exact BitVec.toInt_eq_toNat_of_lt (by omega)
  rw [e]
  omega
section LWL
variable {X : pj_X} {Q : pj_Q}
theorem lw_loop (hX : ∀ j, pj_rg (X.2 j)) (hXL : X.1 ≤ 2048) (hQ : ∀ (k p n a1 a2 a3 b1 b2 b3 e1 e2 e3 g1 g2 g3 q1 q2 q3 d1 d2 l sq sg t1 t2 d ml mx me rk : Int) (br fW f1 f2 fr fq dr nf ng ft dt f fs s h sl sv on tw r ig gv sp ot re wh eq ma se pr gw li fh tb fm : Nat → Int), Q (some (.inl 1)) (wL k p n a1 a2 a3 b1 b2 b3 e1 e2 e3 g1 g2 g3 q1 q2 q3 d1 d2 l sq sg t1 t2 d ml mx me rk br fW f1 f2 fr fq dr nf ng ft dt f fs s h sl sv on tw r ig gv sp ot re wh eq ma se pr gw li fh tb fm)) : ∀ (m : Nat) (i : Int), (X.1 : Int) - i ≤ m → 0 ≤ i ∧ i ≤ (X.1 : Int) → lw_go X i Q := by
  intro m
  induction m with
  | zero =>
    intro i hm hi k p n a1 a2 a3 b1 b2 b3 e1 e2 e3 g1 g2 g3 q1 q2 q3 d1 d2 l sq sg t1 t2 d ml mx me rk br fW f1 f2 fr fq dr nf ng ft dt f fs s h sl sv on tw r ig gv sp ot re wh eq ma se pr gw li fh tb fm iv
    refine wp_b rfl (by omega) (fun c => ?_) (fun c => absurd c (by omega))
    exact wp_r rfl (by omega) (hQ _ _ _ _ _ _ _ _ _ _ _ _ _ _ _ _ _ _ _ _ _ _ _ _ _ _ _ _ _ _ _ _ _ _ _ _ _ _ _ _ _ _ _ _ _ _ _ _ _ _ _ _ _ _ _ _ _ _ _ _ _ _ _ _ _)
  | succ m ih =>
    intro i hm hi k p n a1 a2 a3 b1 b2 b3 e1 e2 e3 g1 g2 g3 q1 q2 q3 d1 d2 l sq sg t1 t2 d ml mx me rk br fW f1 f2 fr fq dr nf ng ft dt f fs s h sl sv on tw r ig gv sp ot re wh eq ma se pr gw li fh tb fm iv
    refine wp_b rfl (by omega) (fun c => ?_) (fun c => ?_)
    · exact wp_r rfl (by omega) (hQ _ _ _ _ _ _ _ _ _ _ _ _ _ _ _ _ _ _ _ _ _ _ _ _ _ _ _ _ _ _ _ _ _ _ _ _ _ _ _ _ _ _ _ _ _ _ _ _ _ _ _ _ _ _ _ _ _ _ _ _ _ _ _ _ _)
    · have hgo := ih (i + 4) (by omega) ⟨by omega, by omega⟩
      have hx := pj_and31 (X.2 i.toNat)
      by_cases h0 : pj_and (X.2 i.toNat) 31 = 0
      · exact wp_s rfl (by omega) ⟨by omega, by omega⟩ 168 (Or.inl ⟨⟨by omega, by omega⟩, 136, by rw [h0]; rfl, by omega⟩) (lw_q0 hX ⟨hi.1, by omega⟩ hXL hgo iv)
      by_cases h1 : pj_and (X.2 i.toNat) 31 = 1
      · exact wp_s rfl (by omega) ⟨by omega, by omega⟩ 201 (Or.inl ⟨⟨by omega, by omega⟩, 169, by rw [h1]; rfl, by omega⟩) (lw_q1 hX ⟨hi.1, by omega⟩ hXL hgo iv)
      by_cases h2 : pj_and (X.2 i.toNat) 31 = 2
      · exact wp_s rfl (by omega) ⟨by omega, by omega⟩ 244 (Or.inl ⟨⟨by omega, by omega⟩, 212, by rw [h2]; rfl, by omega⟩) (lw_q2 hX ⟨hi.1, by omega⟩ hXL hgo iv)
      by_cases h3 : pj_and (X.2 i.toNat) 31 = 3
      · exact wp_s rfl (by omega) ⟨by omega, by omega⟩ 267 (Or.inl ⟨⟨by omega, by omega⟩, 235, by rw [h3]; rfl, by omega⟩) (lw_q3 hX ⟨hi.1, by omega⟩ hXL hgo iv)
      by_cases h4 : pj_and (X.2 i.toNat) 31 = 4
      · exact wp_s rfl (by omega) ⟨by omega, by omega⟩ 280 (Or.inl ⟨⟨by omega, by omega⟩, 248, by rw [h4]; rfl, by omega⟩) (lw_q4 hX ⟨hi.1, by omega⟩ hXL hgo iv)
      by_cases h5 : pj_and (X.2 i.toNat) 31 = 5
      · exact wp_s rfl (by omega) ⟨by omega, by omega⟩ 293 (Or.inl ⟨⟨by omega, by omega⟩, 261, by rw [h5]; rfl, by omega⟩) (lw_q5 hX ⟨hi.1, by omega⟩ hXL hgo iv)
      by_cases h6 : pj_and (X.2 i.toNat) 31 = 6
      · exact wp_s rfl (by omega) ⟨by omega, by omega⟩ 306 (Or.inl ⟨⟨by omega, by omega⟩, 274, by rw [h6]; rfl, by omega⟩) (lw_q6 hX ⟨hi.1, by omega⟩ hXL hgo iv)
      by_cases h7 : pj_and (X.2 i.toNat) 31 = 7
      · exact wp_s rfl (by omega) ⟨by omega, by omega⟩ 319 (Or.inl ⟨⟨by omega, by omega⟩, 287, by rw [h7]; rfl, by omega⟩) (lw_q7 hX ⟨hi.1, by omega⟩ hXL hgo iv)
      by_cases h8 : pj_and (X.2 i.toNat) 31 = 8
      · exact wp_s rfl (by omega) ⟨by omega, by omega⟩ 352 (Or.inl ⟨⟨by omega, by omega⟩, 320, by rw [h8]; rfl, by omega⟩) (lw_q8 hX ⟨hi.1, by omega⟩ hXL hgo iv)
      by_cases h9 : pj_and (X.2 i.toNat) 31 = 9
      · exact wp_s rfl (by omega) ⟨by omega, by omega⟩ 365 (Or.inl ⟨⟨by omega, by omega⟩, 333, by rw [h9]; rfl, by omega⟩) (lw_q9 hX ⟨hi.1, by omega⟩ hXL hgo iv)
      by_cases h10 : pj_and (X.2 i.toNat) 31 = 10
      · exact wp_s rfl (by omega) ⟨by omega, by omega⟩ 388 (Or.inl ⟨⟨by omega, by omega⟩, 356, by rw [h10]; rfl, by omega⟩) (lw_q10 hX ⟨hi.1, by omega⟩ hXL hgo iv)
      by_cases h11 : pj_and (X.2 i.toNat) 31 = 11
      · exact wp_s rfl (by omega) ⟨by omega, by omega⟩ 411 (Or.inl ⟨⟨by omega, by omega⟩, 379, by rw [h11]; rfl, by omega⟩) (lw_q11 hX ⟨hi.1, by omega⟩ hXL hgo iv)
      by_cases h12 : pj_and (X.2 i.toNat) 31 = 12
      · exact wp_s rfl (by omega) ⟨by omega, by omega⟩ 444 (Or.inl ⟨⟨by omega, by omega⟩, 412, by rw [h12]; rfl, by omega⟩) (lw_q12 hX ⟨hi.1, by omega⟩ hXL hgo iv)
      by_cases h13 : pj_and (X.2 i.toNat) 31 = 13
      · exact wp_s rfl (by omega) ⟨by omega, by omega⟩ 457 (Or.inl ⟨⟨by omega, by omega⟩, 425, by rw [h13]; rfl, by omega⟩) (lw_q13 hX ⟨hi.1, by omega⟩ hXL hgo iv)
      by_cases h14 : pj_and (X.2 i.toNat) 31 = 14
      · exact wp_s rfl (by omega) ⟨by omega, by omega⟩ 470 (Or.inl ⟨⟨by omega, by omega⟩, 438, by rw [h14]; rfl, by omega⟩) (lw_q14 hX ⟨hi.1, by omega⟩ hXL hgo iv)
      by_cases h15 : pj_and (X.2 i.toNat) 31 = 15
      · exact wp_s rfl (by omega) ⟨by omega, by omega⟩ 493 (Or.inl ⟨⟨by omega, by omega⟩, 461, by rw [h15]; rfl, by omega⟩) (lw_q15 hX ⟨hi.1, by omega⟩ hXL hgo iv)
      by_cases h16 : pj_and (X.2 i.toNat) 31 = 16
      · exact wp_s rfl (by omega) ⟨by omega, by omega⟩ 516 (Or.inl ⟨⟨by omega, by omega⟩, 484, by rw [h16]; rfl, by omega⟩) (lw_q16 hX ⟨hi.1, by omega⟩ hXL hgo iv)
      by_cases h17 : pj_and (X.2 i.toNat) 31 = 17
      · exact wp_s rfl (by omega) ⟨by omega, by omega⟩ 539 (Or.inl ⟨⟨by omega, by omega⟩, 507, by rw [h17]; rfl, by omega⟩) (lw_q17 hX ⟨hi.1, by omega⟩ hXL hgo iv)
      by_cases h18 : pj_and (X.2 i.toNat) 31 = 18
      · exact wp_s rfl (by omega) ⟨by omega, by omega⟩ 572 (Or.inl ⟨⟨by omega, by omega⟩, 540, by rw [h18]; rfl, by omega⟩) (lw_q18 hX ⟨hi.1, by omega⟩ hXL hgo iv)
      by_cases h19 : pj_and (X.2 i.toNat) 31 = 19
      · exact wp_s rfl (by omega) ⟨by omega, by omega⟩ 615 (Or.inl ⟨⟨by omega, by omega⟩, 583, by rw [h19]; rfl, by omega⟩) (lw_q19 hX ⟨hi.1, by omega⟩ hXL hgo iv)
      by_cases h20 : pj_and (X.2 i.toNat) 31 = 20
      · exact wp_s rfl (by omega) ⟨by omega, by omega⟩ 658 (Or.inl ⟨⟨by omega, by omega⟩, 626, by rw [h20]; rfl, by omega⟩) (lw_q20 hX ⟨hi.1, by omega⟩ hXL hgo iv)
      by_cases h21 : pj_and (X.2 i.toNat) 31 = 21
      · exact wp_s rfl (by omega) ⟨by omega, by omega⟩ 681 (Or.inl ⟨⟨by omega, by omega⟩, 649, by rw [h21]; rfl, by omega⟩) (lw_q21 hX ⟨hi.1, by omega⟩ hXL hgo iv)
      by_cases h22 : pj_and (X.2 i.toNat) 31 = 22
      · exact wp_s rfl (by omega) ⟨by omega, by omega⟩ 714 (Or.inl ⟨⟨by omega, by omega⟩, 682, by rw [h22]; rfl, by omega⟩) (lw_q22 hX ⟨hi.1, by omega⟩ hXL hgo iv)
      by_cases h23 : pj_and (X.2 i.toNat) 31 = 23
      · exact wp_s rfl (by omega) ⟨by omega, by omega⟩ 727 (Or.inl ⟨⟨by omega, by omega⟩, 695, by rw [h23]; rfl, by omega⟩) (lw_q23 hX ⟨hi.1, by omega⟩ hXL hgo iv)
      by_cases h24 : pj_and (X.2 i.toNat) 31 = 24
      · exact wp_s rfl (by omega) ⟨by omega, by omega⟩ 740 (Or.inl ⟨⟨by omega, by omega⟩, 708, by rw [h24]; rfl, by omega⟩) (lw_q24 hX ⟨hi.1, by omega⟩ hXL hgo iv)
      by_cases h25 : pj_and (X.2 i.toNat) 31 = 25
      · exact wp_s rfl (by omega) ⟨by omega, by omega⟩ 783 (Or.inl ⟨⟨by omega, by omega⟩, 751, by rw [h25]; rfl, by omega⟩) (lw_q25 hX ⟨hi.1, by omega⟩ hXL hgo iv)
      by_cases h26 : pj_and (X.2 i.toNat) 31 = 26
      · exact wp_s rfl (by omega) ⟨by omega, by omega⟩ 816 (Or.inl ⟨⟨by omega, by omega⟩, 784, by rw [h26]; rfl, by omega⟩) (lw_q26 hX ⟨hi.1, by omega⟩ hXL hgo iv)
      by_cases h27 : pj_and (X.2 i.toNat) 31 = 27
      · exact wp_s rfl (by omega) ⟨by omega, by omega⟩ 849 (Or.inl ⟨⟨by omega, by omega⟩, 817, by rw [h27]; rfl, by omega⟩) (lw_q27 hX ⟨hi.1, by omega⟩ hXL hgo iv)
      by_cases h28 : pj_and (X.2 i.toNat) 31 = 28
      · exact wp_s rfl (by omega) ⟨by omega, by omega⟩ 862 (Or.inl ⟨⟨by omega, by omega⟩, 830, by rw [h28]; rfl, by omega⟩) (lw_q28 hX ⟨hi.1, by omega⟩ hXL hgo iv)
      by_cases h29 : pj_and (X.2 i.toNat) 31 = 29
      · exact wp_s rfl (by omega) ⟨by omega, by omega⟩ 885 (Or.inl ⟨⟨by omega, by omega⟩, 853, by rw [h29]; rfl, by omega⟩) (lw_q29 hX ⟨hi.1, by omega⟩ hXL hgo iv)
      refine wp_s rfl (by omega) ⟨by omega, by omega⟩ 908 (Or.inr ⟨by omega, by omega⟩) ?_
      refine wp_g rfl (by omega) ?_
      exact hgo _ _ _ _ _ _ _ _ _ _ _ _ _ _ _ _ _ _ _ _ _ _ _ _ _ _ _ _ _ _ _ _ _ _ _ _ _ _ _ _ _ _ _ _ _ _ _ _ _ _ _ _ _ _ _ _ _ _ _ _ _ _ _ _ _ iv
end LWL
