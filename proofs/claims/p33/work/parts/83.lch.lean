/-! LieAlgebra: the methods that change the state -/
section HIS
variable {X : pj_X} {Q : pj_Q} {p n : Int} {w N : Nat} {T : Nat → Nat → Nat → Int} {s br : Nat → Int}
/-- what remember() makes of the shelf -/
def hk_f (D : Nat) (f : Nat → Int) (p n : Int) (br : Nat → Int) : Nat → Int := if D = 6 then sh_k (va_cpy f f 27 0 135) 5 p n br else sh_k f D p n br
theorem sh_k_at (f : Nat → Int) (K : Nat) (p n : Int) (br : Nat → Int) (q : Nat) : sh_k f K p n br q = if 27 * K + 2 ≤ q ∧ q < 27 * K + 27 then br (q - (27 * K + 2)) else if q = 27 * K + 1 then n else if q = 27 * K then p else f q := by
  unfold sh_k va_cpy pj_up
  by_cases e : 27 * K + 2 ≤ q ∧ q < 27 * K + 27
  · rw [if_pos (by omega), if_pos e, Nat.zero_add]
  · rw [if_neg (by omega), if_neg e]
end HIS
abbrev w_Q (p n : Int) (br : Nat → Int) (k : Int) (f : Nat → Int) (d1 d2 : Int) (dr nf ng : Nat → Int) : List pj_C := [c_Li (.inr 1) v_u v_u (.inr 5) v_u (.inr 3) v_u (.inl k), c_T (.inl p) (.inl n) (.inr 2), c_A 25 br, c_Sh (.inl 6) (.inr 4), c_A 162 f, c_Ch (.inr 1) (.inr 6) (.inr 8) (.inr 9), c_T (.inl d1) (.inl d2) (.inr 7), c_A 25 dr, c_A 5 nf, c_A 5 ng]
abbrev w_VV (p n : Int) (br : Nat → Int) (k : Int) (fs : Nat → Int) : List pj_C := [c_Li (.inr 1) v_u v_u v_u v_u v_u (.inr 3) (.inl k), c_T (.inl p) (.inl n) (.inr 2), c_A 25 br, c_Sh (.inl 2) (.inr 4), c_A 54 fs]
section LCH
variable {X : pj_X} {Q : pj_Q} {p n : Int} {w N : Nat} {T : Nat → Nat → Nat → Int} {s br : Nat → Int}
theorem l_remember {k : Int} {D : Nat} {f : Nat → Int} (hk : k = D) (hD : D ≤ 6) (hQ : Q none (w_H p n br (if D = 6 then 6 else k + 1) (hk_f D f p n br))) : pj_ci X m_Li_remember [.inr 0] (w_H p n br k f) Q := by
  refine c_remember hk hD (fun h => ?_) (fun h => ?_)
  · unfold hk_f at hQ
    rw [if_neg (by omega), if_neg (by omega)] at hQ
    exact hQ
  · unfold hk_f at hQ
    rw [if_pos h, if_pos h] at hQ
    rw [show k - 1 + 1 = 6 by omega]
    exact hQ
theorem l_configure (hp : nn_p p) (hN : N ≤ 5) (hn : n = N) {k pp nn : Int} {D : Nat} {f : Nat → Int} (hk : k = D) (hD : D ≤ 6) (hpp : pj_rg pp) (hnn : pj_rg nn)
    (h0 : ¬ (nn_p pp ∧ 1 ≤ nn ∧ nn ≤ 5) → Q (some (.inl (-1))) (w_H p n br k f))
    (h1 : ∀ M : Nat, nn_p pp → nn = M → 1 ≤ M → M ≤ 5 → Q (some (.inl (pp ^ M))) (w_H pp nn (fun q => if q < 25 then 0 else br q) (if D = 6 then 6 else k + 1) (hk_f D f p n br))) : pj_ci X m_Li_configure [.inr 0, .inl pp, .inl nn] (w_H p n br k f) Q := by
  obtain ⟨a1, a2⟩ := hpp
  obtain ⟨b1, b2⟩ := hnn
  have good : nn_p pp → pj_WP X m_Li_configure 28 [.inr 0, .inl pp, .inl nn, .inl 1] [.inl 1] (w_H p n br k f) Q := by
    intro hp2
    refine wp_b rfl (by omega) (fun c => absurd c (by omega)) (fun _ => ?_)
    refine wp_b rfl (by omega) (fun c => ?_) (fun c => ?_)
    · exact wp_r rfl (by omega) (h0 (by omega))
    · refine wp_b rfl (by omega) (fun c2 => ?_) (fun c2 => ?_)
      · refine wp_c rfl (by omega) [0, 1, 2, 3, 4] (l_remember hk hD ?_) rfl rfl rfl rfl
        refine wp_c rfl (by omega) [1, 2] (c_Tbegin ?_) rfl rfl rfl rfl
        refine wp_h (w_H pp nn (fun q => if q < 25 then 0 else br q) (if D = 6 then 6 else k + 1) (hk_f D f p n br)) rfl ?_
        refine wp_c rfl (by omega) [1] (c_vectorCount (N := nn.toNat) (by omega) (by omega) ?_) rfl rfl rfl rfl
        exact wp_r rfl (by omega) (h1 _ hp2 (by omega) (by omega) (by omega))
      · exact wp_r rfl (by omega) (h0 (by omega))
  refine wp_b rfl (by omega) (fun c => wp_g rfl (by omega) (good (by unfold nn_p; omega))) (fun c1 => ?_)
  refine wp_b rfl (by omega) (fun c => wp_g rfl (by omega) (good (by unfold nn_p; omega))) (fun c2 => ?_)
  refine wp_b rfl (by omega) (fun c => wp_g rfl (by omega) (good (by unfold nn_p; omega))) (fun c3 => ?_)
  refine wp_b rfl (by omega) (fun c => ?_) (fun c4 => wp_g rfl (by omega) (good (by unfold nn_p; omega)))
  refine wp_b rfl (by omega) (fun _ => ?_) (fun c => absurd rfl c)
  exact wp_r rfl (by omega) (h0 (fun z => by unfold nn_p at z; omega))
theorem sb_br (ht : tt_ok p N T) (hb : tt_br p N T br) {I J : Nat} {v : Int} (hI : I < N) (hJ : J < N) (hne : I ≠ J) (v1 : 0 ≤ v) (v2 : v < p ^ N) : tt_br p N (sb_T p N T I J v) (pj_up (pj_up br (5 * I + J) v) (5 * J + I) (nn_plus p N 0 v (-1))) := by
  obtain ⟨hp, h1N, hN, hT, -⟩ := id ht
  obtain ⟨hp1, hp2, hp3⟩ := nn_p_pos hp
  have hs : ∀ i j k, sb_T p N T I J v i j k = if i = I ∧ j = J then (if k < N then nn_dg p v k else 0) else if i = J ∧ j = I then (-(if k < N then nn_dg p v k else 0)) % p else T i j k := fun _ _ _ => rfl
  intro i j hi hj
  unfold pj_up
  by_cases e1 : 5 * i + j = 5 * J + I
  · have e2 : i = J ∧ j = I := by omega
    rw [if_pos e1]
    unfold nn_plus
    refine nn_nm_congr N (fun k hk => ?_)
    rw [hs, if_neg (show ¬ (i = I ∧ j = J) by omega), if_pos e2, if_pos hk, nn_dg_0 hp1, Int.zero_add, Int.neg_one_mul]
  · rw [if_neg e1]
    by_cases e3 : 5 * i + j = 5 * I + J
    · rw [if_pos e3]
      have h9 := nn_nm_dg hp1 N v1 v2
      rw [show nn_nm p N (sb_T p N T I J v i j) = nn_nm p N (nn_dg p v) from nn_nm_congr N (fun k hk => by rw [hs, if_pos (by omega), if_pos hk]), h9]
    · rw [if_neg e3, hb i j hi hj]
      exact nn_nm_congr N (fun k hk => by rw [hs, if_neg (by omega), if_neg (by omega)])
theorem l_setBracket (ht : tt_ok p N T) (hb : tt_br p N T br) (hn : n = N) {k i j v : Int} {D : Nat} {f : Nat → Int} (hk : k = D) (hD : D ≤ 6) (hi : pj_rg i) (hj : pj_rg j) (hv : pj_rg v)
    (h0 : ¬ ((0 ≤ i ∧ i < N) ∧ (0 ≤ j ∧ j < N) ∧ i ≠ j ∧ 0 ≤ v ∧ v < p ^ N) → Q (some (.inl (-1))) (w_H p n br k f))
    (h1 : ∀ (I J : Nat) (br' : Nat → Int), i = I → j = J → I < N → J < N → I ≠ J → 0 ≤ v → v < p ^ N → tt_br p N (sb_T p N T I J v) br' → Q (some (.inl (nn_nm p N (T I J)))) (w_H p n br' (if D = 6 then 6 else k + 1) (hk_f D f p n br))) : pj_ci X m_Li_setBracket [.inr 0, .inl i, .inl j, .inl v] (w_H p n br k f) Q := by
  obtain ⟨hp, h1N, hN, hT, -⟩ := id ht
  have hpw := nn_pwle hp N hN
  refine wp_c rfl (by omega) [1] (c_hasPair hi hj (by omega) (fun a b c => ?_) (fun a => ?_)) rfl rfl rfl rfl
  · refine wp_b rfl (by omega) (fun c => absurd c (by omega)) (fun _ => ?_)
    refine wp_c rfl (by omega) [1] (c_hasVector hp hv hN hn (fun v1 v2 => ?_) (fun v1 => ?_)) rfl rfl rfl rfl
    · refine wp_b rfl (by omega) (fun _ => ?_) (fun c => absurd c (by omega))
      refine wp_c rfl (by omega) [1, 2] (c_entry (I := i.toNat) (J := j.toNat) (by omega) (by omega) (by omega) (by omega) ?_) rfl rfl rfl rfl
      rw [hb i.toNat j.toNat (by omega) (by omega)]
      refine wp_h (w_H p n br k f) rfl ?_
      refine wp_c rfl (by omega) [0, 1, 2, 3, 4] (l_remember hk hD ?_) rfl rfl rfl rfl
      refine wp_c rfl (by omega) [1, 2] (c_setEntry (I := i.toNat) (J := j.toNat) hp hN hn (by omega) (by omega) (by omega) (by omega) ⟨v1, by omega⟩ ?_) rfl rfl rfl rfl
      refine wp_h (w_H p n (pj_up (pj_up br (5 * i.toNat + j.toNat) v) (5 * j.toNat + i.toNat) (nn_plus p N 0 v (-1))) (if D = 6 then 6 else k + 1) (hk_f D f p n br)) rfl ?_
      exact wp_r rfl (by omega) (h1 _ _ _ (by omega) (by omega) (by omega) (by omega) (by omega) v1 v2 (sb_br ht hb (by omega) (by omega) (by omega) v1 v2))
    · refine wp_b rfl (by omega) (fun c => absurd rfl c) (fun _ => ?_)
      exact wp_r rfl (by omega) (h0 (by omega))
  · refine wp_b rfl (by omega) (fun _ => ?_) (fun c => absurd rfl c)
    exact wp_r rfl (by omega) (h0 (by omega))
theorem l_undo {f : Nat → Int} {k : Int} {D : Nat} (hk : k = D) (hD : D ≤ 6)
    (h0 : D = 0 → Q (some (.inl (-2))) (w_H p n br k f)) (h1 : ∀ E : Nat, D = E + 1 → Q (some (.inl (E : Int))) (w_H (f (27 * E)) (f (27 * E + 1)) (va_cpy f br (27 * E + 2) 0 25) (E : Int) f)) : pj_ci X m_Li_undo [.inr 0] (w_H p n br k f) Q := by
  refine wp_b rfl (by omega) (fun c => ?_) (fun c => ?_)
  · have e : k - 1 = ((D - 1 : Nat) : Int) := by omega
    refine wp_c rfl (by omega) [3, 4, 1, 2] (c_fetch (P := 6) (K := D - 1) (by omega) e (by omega) ?_) rfl rfl rfl rfl
    refine wp_r rfl (by omega) ?_
    rw [e]
    exact h1 (D - 1) (by omega)
  · exact wp_r rfl (by omega) (h0 (by omega))
theorem l_save {f : Nat → Int} {k z : Int} (hz : pj_rg z)
    (h0 : ¬ (0 ≤ z ∧ z ≤ 1) → Q (some (.inl (-1))) (w_VV p n br k f)) (h1 : ∀ Z : Nat, z = Z → Z < 2 → Q (some (.inl n)) (w_VV p n br k (sh_k f Z p n br))) : pj_ci X m_Li_save [.inr 0, .inl z] (w_VV p n br k f) Q := by
  obtain ⟨z1, z2⟩ := hz
  refine wp_b rfl (by omega) (fun c => ?_) (fun c => ?_)
  · exact wp_r rfl (by omega) (h0 (by omega))
  · refine wp_b rfl (by omega) (fun c2 => ?_) (fun c2 => ?_)
    · refine wp_c rfl (by omega) [3, 4, 1, 2] (c_keep (P := 2) (K := z.toNat) (by omega) (by omega) (by omega) ?_) rfl rfl rfl rfl
      exact wp_r rfl (by omega) (h1 z.toNat (by omega) (by omega))
    · exact wp_r rfl (by omega) (h0 (by omega))
theorem l_restore {f : Nat → Int} {k z : Int} (hz : pj_rg z) (hf : ∀ r, r < 2 → -2147483648 ≤ f (27 * r) ∧ f (27 * r) ≤ 2147483647)
    (h0 : ¬ (0 ≤ z ∧ z ≤ 1) → Q (some (.inl (-1))) (w_VV p n br k f)) (h1 : ∀ Z : Nat, z = Z → Z < 2 → f (27 * Z) = 0 → Q (some (.inl (-2))) (w_VV p n br k f))
    (h2 : ∀ Z : Nat, z = Z → Z < 2 → f (27 * Z) ≠ 0 → Q (some (.inl (f (27 * Z + 1)))) (w_VV (f (27 * Z)) (f (27 * Z + 1)) (va_cpy f br (27 * Z + 2) 0 25) 0 f)) : pj_ci X m_Li_restore [.inr 0, .inl z] (w_VV p n br k f) Q := by
  obtain ⟨z1, z2⟩ := hz
  refine wp_b rfl (by omega) (fun c => ?_) (fun c => ?_)
  · exact wp_r rfl (by omega) (h0 (by omega))
  · refine wp_b rfl (by omega) (fun c2 => ?_) (fun c2 => ?_)
    · refine wp_c rfl (by omega) [3, 4] (c_isEmpty (P := 2) (K := z.toNat) (by omega) (by omega) (by omega) (hf _ (by omega)) (fun c3 => ?_) (fun c3 => ?_)) rfl rfl rfl rfl
      · refine wp_b rfl (by omega) (fun c => absurd c (by omega)) (fun _ => ?_)
        exact wp_r rfl (by omega) (h1 z.toNat (by omega) (by omega) c3)
      · refine wp_b rfl (by omega) (fun _ => ?_) (fun c => absurd rfl c)
        refine wp_c rfl (by omega) [3, 4, 1, 2] (c_fetch (P := 2) (K := z.toNat) (by omega) (by omega) (by omega) ?_) rfl rfl rfl rfl
        exact wp_r rfl (by omega) (h2 z.toNat (by omega) (by omega) c3)
    · exact wp_r rfl (by omega) (h0 (by omega))
theorem tt_br_rg (hp : nn_p p) (hN : N ≤ 5) (hT : ∀ i j k, 0 ≤ T i j k ∧ T i j k < p) (hb : tt_br p N T br) : ∀ k, k < 25 → -2147483648 ≤ br k ∧ br k ≤ 2147483647 := by
  intro k hk
  have h := hb (k / 5) (k % 5) (by omega) (by omega)
  rw [show 5 * (k / 5) + k % 5 = k by omega] at h
  have h2 := nn_nm_rg (nn_p_pos hp).1 N (f := T (k / 5) (k % 5)) (fun c hc => hT _ _ c)
  have hpw := nn_pwle hp N hN
  omega
theorem l_addBasis (ht : tt_ok p N T) (hb : tt_br p N T br) (hn : n = N) {k i j a d1 d2 : Int} {D : Nat} {f dr nf ng : Nat → Int} (hk : k = D) (hD : D ≤ 6) (hi : pj_rg i) (hj : pj_rg j) (ha : pj_rg a)
    (h0 : ¬ ((0 ≤ i ∧ i < N) ∧ (0 ≤ j ∧ j < N) ∧ i ≠ j ∧ 1 ≤ a ∧ a < p) → Q (some (.inl (-1))) (w_Q p n br k f d1 d2 dr nf ng))
    (h1 : ∀ (I J : Nat) (br' dr nf ng : Nat → Int), i = I → j = J → I < N → J < N → I ≠ J → 1 ≤ a → a < p → tt_br p N (ch_T p N T (ch_u I (fun c => ln_e I c + a * ln_e J c)) (ch_u I (fun c => ln_e I c + (-a) * ln_e J c))) br' → Q (some (.inl (nn_nm p N (ch_T p N T (ch_u I (fun c => ln_e I c + a * ln_e J c)) (ch_u I (fun c => ln_e I c + (-a) * ln_e J c)) I J)))) (w_Q p n br' (if D = 6 then 6 else k + 1) (hk_f D f p n br) p n dr nf ng)) :
    pj_ci X m_Li_addBasis [.inr 0, .inl i, .inl j, .inl a] (w_Q p n br k f d1 d2 dr nf ng) Q := by
  obtain ⟨hp, h1N, hN, hT, -⟩ := id ht
  refine wp_c rfl (by omega) [1] (c_hasPair hi hj (by omega) (fun x1 x2 x3 => ?_) (fun x1 => ?_)) rfl rfl rfl rfl
  · refine wp_b rfl (by omega) (fun c => absurd c (by omega)) (fun _ => ?_)
    refine wp_c rfl (by omega) [1] (c_hasFactor hp ha (fun v1 v2 => ?_) (fun v1 => ?_)) rfl rfl rfl rfl
    · refine wp_b rfl (by omega) (fun _ => ?_) (fun c => absurd c (by omega))
      refine wp_c rfl (by omega) [0, 1, 2, 3, 4] (l_remember hk hD ?_) rfl rfl rfl rfl
      refine wp_h (w_Q p n br (if D = 6 then 6 else k + 1) (hk_f D f p n br) d1 d2 dr nf ng) rfl ?_
      refine wp_c rfl (by omega) [5, 1, 2, 6, 7, 8, 9] (c_Cadd ht hb hn (I := i.toNat) (J := j.toNat) (by omega) (by omega) (by omega) (by omega) ⟨v1, v2⟩ (fun br' dr nf ng hbr => ?_)) rfl rfl rfl rfl
      refine wp_h (w_Q p n br' (if D = 6 then 6 else k + 1) (hk_f D f p n br) p n dr nf ng) rfl ?_
      refine wp_c rfl (by omega) [1, 2] (c_entry (I := i.toNat) (J := j.toNat) (by omega) (by omega) (by omega) (by omega) ?_) rfl rfl rfl rfl
      rw [hbr i.toNat j.toNat (by omega) (by omega)]
      exact wp_r rfl (by omega) (h1 _ _ _ _ _ _ (by omega) (by omega) (by omega) (by omega) (by omega) v1 v2 hbr)
    · refine wp_b rfl (by omega) (fun c => absurd rfl c) (fun _ => ?_)
      exact wp_r rfl (by omega) (h0 (by omega))
  · refine wp_b rfl (by omega) (fun _ => ?_) (fun c => absurd rfl c)
    exact wp_r rfl (by omega) (h0 (by omega))
theorem l_scaleBasis (ht : tt_ok p N T) (hb : tt_br p N T br) (hn : n = N) {k i a d1 d2 : Int} {D : Nat} {f dr nf ng : Nat → Int} (hk : k = D) (hD : D ≤ 6) (hi : pj_rg i) (ha : pj_rg a)
    (h0 : ¬ ((0 ≤ i ∧ i < N) ∧ 1 ≤ a ∧ a < p) → Q (some (.inl (-1))) (w_Q p n br k f d1 d2 dr nf ng))
    (h1 : ∀ (I : Nat) (y : Int) (br' dr nf ng : Nat → Int), i = I → I < N → 1 ≤ a → a < p → 1 ≤ y → y < p → y * a % p = 1 → tt_br p N (ch_T p N T (ch_u I (fun c => a * ln_e I c)) (ch_u I (fun c => y * ln_e I c))) br' → Q (some (.inl (jc_cc br' N N))) (w_Q p n br' (if D = 6 then 6 else k + 1) (hk_f D f p n br) p n dr nf ng)) :
    pj_ci X m_Li_scaleBasis [.inr 0, .inl i, .inl a] (w_Q p n br k f d1 d2 dr nf ng) Q := by
  obtain ⟨hp, h1N, hN, hT, -⟩ := id ht
  refine wp_c rfl (by omega) [1] (c_hasIndex hi (by omega) (fun x1 x2 => ?_) (fun x1 => ?_)) rfl rfl rfl rfl
  · refine wp_b rfl (by omega) (fun c => absurd c (by omega)) (fun _ => ?_)
    refine wp_c rfl (by omega) [1] (c_hasFactor hp ha (fun v1 v2 => ?_) (fun v1 => ?_)) rfl rfl rfl rfl
    · refine wp_b rfl (by omega) (fun _ => ?_) (fun c => absurd c (by omega))
      refine wp_c rfl (by omega) [0, 1, 2, 3, 4] (l_remember hk hD ?_) rfl rfl rfl rfl
      refine wp_h (w_Q p n br (if D = 6 then 6 else k + 1) (hk_f D f p n br) d1 d2 dr nf ng) rfl ?_
      refine wp_c rfl (by omega) [5, 1, 2, 6, 7, 8, 9] (c_Cscale ht hb hn (I := i.toNat) (by omega) (by omega) ⟨v1, v2⟩ (fun br' dr nf ng y y1 y2 y3 hbr => ?_)) rfl rfl rfl rfl
      refine wp_h (w_Q p n br' (if D = 6 then 6 else k + 1) (hk_f D f p n br) p n dr nf ng) rfl ?_
      refine wp_c rfl (by omega) [1, 2] (c_pairs (tt_br_rg hp hN (ch_ok ht _ _).2.2.2.1 hbr) hN hn ?_) rfl rfl rfl rfl
      exact wp_r rfl (by omega) (h1 _ y _ _ _ _ (by omega) (by omega) v1 v2 y1 y2 y3 hbr)
    · refine wp_b rfl (by omega) (fun c => absurd rfl c) (fun _ => ?_)
      exact wp_r rfl (by omega) (h0 (by omega))
  · refine wp_b rfl (by omega) (fun _ => ?_) (fun c => absurd rfl c)
    exact wp_r rfl (by omega) (h0 (by omega))
theorem l_swapBasis (ht : tt_ok p N T) (hb : tt_br p N T br) (hn : n = N) {k i j d1 d2 : Int} {D : Nat} {f dr nf ng : Nat → Int} (hk : k = D) (hD : D ≤ 6) (hi : pj_rg i) (hj : pj_rg j)
    (h0 : ¬ ((0 ≤ i ∧ i < N) ∧ (0 ≤ j ∧ j < N) ∧ i ≠ j) → Q (some (.inl (-1))) (w_Q p n br k f d1 d2 dr nf ng))
    (h1 : ∀ (I J : Nat) (br' dr nf ng : Nat → Int), i = I → j = J → I < N → J < N → I ≠ J → tt_br p N (ch_T p N T (ch_x I J) (ch_x I J)) br' → Q (some (.inl (nn_nm p N (ch_T p N T (ch_x I J) (ch_x I J) I J)))) (w_Q p n br' (if D = 6 then 6 else k + 1) (hk_f D f p n br) p n dr nf ng)) :
    pj_ci X m_Li_swapBasis [.inr 0, .inl i, .inl j] (w_Q p n br k f d1 d2 dr nf ng) Q := by
  obtain ⟨hp, h1N, hN, hT, -⟩ := id ht
  refine wp_c rfl (by omega) [1] (c_hasPair hi hj (by omega) (fun x1 x2 x3 => ?_) (fun x1 => ?_)) rfl rfl rfl rfl
  · refine wp_b rfl (by omega) (fun _ => ?_) (fun c => absurd c (by omega))
    refine wp_c rfl (by omega) [0, 1, 2, 3, 4] (l_remember hk hD ?_) rfl rfl rfl rfl
    refine wp_h (w_Q p n br (if D = 6 then 6 else k + 1) (hk_f D f p n br) d1 d2 dr nf ng) rfl ?_
    refine wp_c rfl (by omega) [5, 1, 2, 6, 7, 8, 9] (c_Cexchange ht hb hn (I := i.toNat) (J := j.toNat) (by omega) (by omega) (by omega) (by omega) (fun br' dr nf ng hbr => ?_)) rfl rfl rfl rfl
    refine wp_h (w_Q p n br' (if D = 6 then 6 else k + 1) (hk_f D f p n br) p n dr nf ng) rfl ?_
    refine wp_c rfl (by omega) [1, 2] (c_entry (I := i.toNat) (J := j.toNat) (by omega) (by omega) (by omega) (by omega) ?_) rfl rfl rfl rfl
    rw [hbr i.toNat j.toNat (by omega) (by omega)]
    exact wp_r rfl (by omega) (h1 _ _ _ _ _ _ (by omega) (by omega) (by omega) (by omega) (by omega) hbr)
  · refine wp_b rfl (by omega) (fun c => absurd rfl c) (fun _ => ?_)
    exact wp_r rfl (by omega) (h0 (by omega))
end LCH
