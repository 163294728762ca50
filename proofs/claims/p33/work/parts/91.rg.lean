/-! every answer is an int -/
section RGS
variable {p : Int} {N : Nat} {T : Nat → Nat → Nat → Int} {z z' : Int}
theorem or_nm (hp : nn_p p) (hN : N ≤ 5) {f : Nat → Int} (h : ∀ k, k < N → 0 ≤ f k ∧ f k < p) : pj_rg (nn_nm p N f) := by
  have a := nn_nm_rg (nn_p_pos hp).1 N h
  have b := nn_pwle hp N hN
  unfold pj_rg
  omega
theorem or_vo (hp : nn_p p) (hN : N ≤ 5) {R : Nat → ln_V} {I : Nat} (hR : ln_R p N R) (h : vo_is p N R I z) : pj_rg z := by
  rcases h with ⟨-, h⟩ | ⟨r, r1, -, -, h⟩
  · unfold pj_rg; omega
  · rw [h]
    exact or_nm hp hN (fun c hc => (hR r r1).1 c hc)
theorem or_ct {R : Nat → ln_V} (hN : N ≤ 5) (h : z = (ln_ct R N : Int)) : pj_rg z := by
  have := ln_ct_w R N
  unfold pj_rg; omega
theorem or_1 (h : z = -1) : pj_rg z := by unfold pj_rg; omega
theorem or_br (hp : nn_p p) (hN : N ≤ 5) {u v : Int} (h : an_br p N T u v z) : pj_rg z := by
  rcases h with ⟨-, b⟩ | ⟨-, b⟩
  · exact or_1 b
  · rw [b]
    exact or_nm hp hN (fun c _ => tt_bk_rg (nn_p_pos hp).1 _ _ c)
theorem or_jf (hN : N ≤ 5) (h : an_jf p N T z) : pj_rg z := by
  unfold pj_rg
  rcases h with ⟨I, J, K, a, b, c, -, -, g⟩ | ⟨-, g⟩ <;> omega
theorem or_sd (hN : N ≤ 5) {u v : Int} (h : an_sd p N T u v z) : pj_rg z := by
  rcases h with ⟨-, b⟩ | ⟨-, R, -, b⟩
  · exact or_1 b
  · exact or_ct hN b
theorem or_id (hN : N ≤ 5) {v : Int} (h : an_id p N T v z) : pj_rg z := by
  rcases h with ⟨-, b⟩ | ⟨-, R, -, b⟩
  · exact or_1 b
  · exact or_ct hN b
theorem or_dd (hN : N ≤ 5) {w : Bool} {l : Int} (h : an_dd p N T w l z) : pj_rg z := by
  rcases h with ⟨-, b⟩ | ⟨-, R, -, b⟩
  · exact or_1 b
  · exact or_ct hN b
theorem or_dv (hp : nn_p p) (hN : N ≤ 5) {l i : Int} (h : an_dv p N T l i z) : pj_rg z := by
  rcases h with ⟨-, b⟩ | ⟨-, R, r, b⟩
  · exact or_1 b
  · exact or_vo hp hN r.1 b
theorem or_ki (h : an_ki p N T z) : pj_rg z := by
  unfold pj_rg
  rcases h with ⟨R, -, -, c⟩ | ⟨R, R2, -, -, -, c⟩
  · omega
  · split at c <;> omega
theorem or_cd (hN : N ≤ 5) (h : an_cd p N T z) : pj_rg z := by
  obtain ⟨R, -, b⟩ := h
  exact or_ct hN b
theorem or_cz (hN : N ≤ 5) {v : Int} (h : an_cz p N T v z) : pj_rg z := by
  rcases h with ⟨-, b⟩ | ⟨-, R, -, b⟩
  · exact or_1 b
  · have := ln_ct_w R N
    unfold pj_rg; omega
theorem or_kl (hp : nn_p p) {u v : Int} (h : an_kl p N T u v z) : pj_rg z := by
  rcases h with ⟨-, b⟩ | ⟨-, b⟩
  · exact or_1 b
  · have a : 0 ≤ tr_v p N T (nn_dg p u) (nn_dg p v) ∧ tr_v p N T (nn_dg p u) (nn_dg p v) < p := ⟨Int.emod_nonneg _ (by have := (nn_p_pos hp).1; omega), Int.emod_lt_of_pos _ (nn_p_pos hp).1⟩
    have := (nn_p_pos hp).2.2
    unfold pj_rg; omega
theorem or_kr (hN : N ≤ 5) (h : an_kr p N T z) : pj_rg z := by
  obtain ⟨R, -, -, c⟩ := h
  have := ln_ct_w R N
  unfold pj_rg; omega
theorem or_de (hN : N ≤ 5) (h : an_de p N T z) : pj_rg z := by
  obtain ⟨R, -, -, c⟩ := h
  have := ln_ct_w R (N * N)
  have h2 : N * N ≤ 5 * 5 := Nat.mul_le_mul hN hN
  unfold pj_rg; omega
theorem or_pw (hp : nn_p p) (hN : N ≤ 5) : pj_rg (p ^ N) := by
  have b := nn_pwle hp N hN
  have c : 0 < p ^ N := Int.pow_pos (nn_p_pos hp).1
  unfold pj_rg; omega
end RGS
