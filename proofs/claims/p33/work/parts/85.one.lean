/-! an answer is one -/
section ONE
variable {p : Int} {N : Nat} {T : Nat → Nat → Nat → Int} {z z' : Int}
theorem on_br {u v : Int} (h : an_br p N T u v z) (h' : an_br p N T u v z') : z = z' := by
  rcases h with ⟨a, b⟩ | ⟨a, b⟩ <;> rcases h' with ⟨a', b'⟩ | ⟨a', b'⟩ <;> first | omega | exact absurd a' a | exact absurd a a'
theorem on_jf (h : an_jf p N T z) (h' : an_jf p N T z') : z = z' := by
  rcases h with ⟨I, J, K, a, b, c, d, e, g⟩ | ⟨e, g⟩
  · rcases h' with ⟨I', J', K', a', b', c', d', e', g'⟩ | ⟨e', g'⟩
    · have x : ¬ (I < I' ∨ (I = I' ∧ (J < J' ∨ (J = J' ∧ K < K')))) := fun q => d (e' I J K a b c q)
      have y : ¬ (I' < I ∨ (I' = I ∧ (J' < J ∨ (J' = J ∧ K' < K)))) := fun q => d' (e I' J' K' a' b' c' q)
      omega
    · exact absurd (e' I J K a b c (by omega)) d
  · rcases h' with ⟨I', J', K', a', b', c', d', e', g'⟩ | ⟨e', g'⟩
    · exact absurd (e I' J' K' a' b' c' (by omega)) d'
    · omega
theorem on_sd (hp : nn_p p) {u v : Int} (h : an_sd p N T u v z) (h' : an_sd p N T u v z') : z = z' := by
  rcases h with ⟨a, b⟩ | ⟨a, R, r, b⟩ <;> rcases h' with ⟨a', b'⟩ | ⟨a', R', r', b'⟩
  · omega
  · exact absurd a' a
  · exact absurd a a'
  · rw [b, b', ct_one hp r r']
theorem on_id (hp : nn_p p) {v : Int} (h : an_id p N T v z) (h' : an_id p N T v z') : z = z' := by
  rcases h with ⟨a, b⟩ | ⟨a, R, r, b⟩ <;> rcases h' with ⟨a', b'⟩ | ⟨a', R', r', b'⟩
  · omega
  · exact absurd a' a
  · exact absurd a a'
  · rw [b, b', ct_one hp r r']
theorem on_dd (hp : nn_p p) {w : Bool} {l : Int} (h : an_dd p N T w l z) (h' : an_dd p N T w l z') : z = z' := by
  rcases h with ⟨a, b⟩ | ⟨a, R, r, b⟩ <;> rcases h' with ⟨a', b'⟩ | ⟨a', R', r', b'⟩
  · omega
  · exact absurd a' a
  · exact absurd a a'
  · rw [b, b', ct_one hp r r']
theorem on_dv (hp : nn_p p) {l i : Int} (h : an_dv p N T l i z) (h' : an_dv p N T l i z') : z = z' := by
  rcases h with ⟨a, b⟩ | ⟨a, R, r, b⟩ <;> rcases h' with ⟨a', b'⟩ | ⟨a', R', r', b'⟩
  · omega
  · exact absurd a' a
  · exact absurd a a'
  · exact vo_one hp r r' b b'
theorem on_ki (hp : nn_p p) (h : an_ki p N T z) (h' : an_ki p N T z') : z = z' := by
  rcases h with ⟨R, r, b, c⟩ | ⟨R, R2, r, b, r2, c⟩ <;> rcases h' with ⟨R', r', b', c'⟩ | ⟨R', R2', r', b', r2', c'⟩
  · omega
  · exact absurd (by rw [← ct_one hp r r']; exact b) b'
  · exact absurd (by rw [ct_one hp r r']; exact b') b
  · rw [c, c', ct_one hp r2 r2']
theorem on_cd (hp : nn_p p) (h : an_cd p N T z) (h' : an_cd p N T z') : z = z' := by
  obtain ⟨R, r, b⟩ := h
  obtain ⟨R', r', b'⟩ := h'
  rw [b, b', ct_one hp r r']
theorem on_cz (hp : nn_p p) {v : Int} (h : an_cz p N T v z) (h' : an_cz p N T v z') : z = z' := by
  rcases h with ⟨a, b⟩ | ⟨a, R, r, b⟩ <;> rcases h' with ⟨a', b'⟩ | ⟨a', R', r', b'⟩
  · omega
  · exact absurd a' a
  · exact absurd a a'
  · rw [b, b', ct_one hp r r']
theorem on_kl {u v : Int} (h : an_kl p N T u v z) (h' : an_kl p N T u v z') : z = z' := by
  rcases h with ⟨a, b⟩ | ⟨a, b⟩ <;> rcases h' with ⟨a', b'⟩ | ⟨a', b'⟩
  · omega
  · exact absurd a' a
  · exact absurd a a'
  · rw [b, b']
theorem gen_one {w : Nat} {R R' : Nat → ln_V} {G : ln_P → Prop} (hp : nn_p p) (hR : ln_R p w R) (hR' : ln_R p w R') (h : ∀ K, ln_sub p w K → (ln_g w R K ↔ G K)) (h' : ∀ K, ln_sub p w K → (ln_g w R' K ↔ G K)) : ln_ct R w = ln_ct R' w := by
  have e := ln_uniq hR hR' (by have := (nn_p_pos hp).2.1; omega) (fun x => by
    rw [ln_in_iff hR, ln_in_iff hR']
    exact ⟨fun q K hK hg => q K hK ((h K hK).mpr ((h' K hK).mp hg)), fun q K hK hg => q K hK ((h' K hK).mpr ((h K hK).mp hg))⟩)
  exact ln_ct_congr w (fun q hq => by rw [e q q hq hq])
theorem on_kr (hp : nn_p p) (h : an_kr p N T z) (h' : an_kr p N T z') : z = z' := by
  obtain ⟨R, a, b, c⟩ := h
  obtain ⟨R', a', b', c'⟩ := h'
  rw [c, c', gen_one (G := fun K => ∀ i, i < N → K (kl_r p N T i)) hp a a' b b']
theorem on_de (hp : nn_p p) (h : an_de p N T z) (h' : an_de p N T z') : z = z' := by
  obtain ⟨R, a, b, c⟩ := h
  obtain ⟨R', a', b', c'⟩ := h'
  rw [c, c', gen_one (G := fun K => ∀ i j r, i < j → j < N → r < N → K (dv_e p N T i j r)) hp a a' b b']
theorem inv_one2 (hp : nn_p p) {a y y' : Int} (h1 : 1 ≤ y) (h2 : y < p) (h3 : y * a % p = 1) (h1' : 1 ≤ y') (h2' : y' < p) (h3' : y' * a % p = 1) : y = y' := by
  have e : y % p = y' % p := by
    have e1 : (y * (y' * a)) % p = y % p := by
      rw [Int.mul_emod, h3', Int.mul_one, Int.emod_emod_of_dvd y (Int.dvd_refl p)]
    have e2 : (y' * (y * a)) % p = y' % p := by
      rw [Int.mul_emod, h3, Int.mul_one, Int.emod_emod_of_dvd y' (Int.dvd_refl p)]
    rw [← e1, ← e2, Int.mul_left_comm]
  rwa [Int.emod_eq_of_lt (by omega) h2, Int.emod_eq_of_lt (by omega) h2'] at e
end ONE
