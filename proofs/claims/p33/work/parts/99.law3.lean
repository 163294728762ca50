/-! the law: its loops, its entry -/
section LAW3
variable {X : pj_X} {Q : pj_Q} {k p n a1 a2 a3 b1 b2 b3 e1 e2 e3 g1 g2 g3 q1 q2 q3 d1 d2 l sq sg t1 t2 : Int} {N : Nat} {T : Nat → Nat → Nat → Int} {br fW f1 f2 fr fq dr nf ng ft dt f fs : Nat → Int}
theorem nn_nm_z (p : Int) : ∀ N : Nat, nn_nm p N (fun _ => 0) = 0
  | 0 => rfl
  | N + 1 => by
    show (0 : Int) + p * nn_nm p N (fun _ => 0) = 0
    rw [nn_nm_z p N, Int.mul_zero, Int.zero_add]
theorem tt_ok0 (hp : nn_p p) (h1 : 1 ≤ N) (h2 : N ≤ 5) : tt_ok p N (fun _ _ _ => 0) := ⟨hp, h1, h2, fun _ _ _ => ⟨Int.le_refl 0, (nn_p_pos hp).1⟩, fun _ _ _ _ => rfl, fun _ _ _ => nn_eq_rfl p _, fun _ _ => rfl⟩
theorem tt_br0 (p : Int) (N : Nat) (f : Nat → Int) : tt_br p N (fun _ _ _ => 0) (fun q => if q < 25 then 0 else f q) := fun i j hi hj => by
  show (if 5 * i + j < 25 then 0 else f (5 * i + j)) = nn_nm p N (fun _ => 0)
  rw [if_pos (by omega), nn_nm_z]
theorem pw_rg (hp : nn_p p) (hN : N ≤ 5) : 1 ≤ p ^ N ∧ p ^ N ≤ 16807 := ⟨nn_pw1 (nn_p_pos hp).1 N, nn_pwle hp N hN⟩
theorem pw_lt (hp : nn_p p) {q : Nat} (hq : q < N) : p ^ q < p ^ N := by
  have hp1 := (nn_p_pos hp).1
  have h1 := nn_pw1 hp1 q
  obtain ⟨m, hm⟩ := Nat.le.dest (show q + 1 ≤ N by omega)
  have h2 := nn_pw1 hp1 m
  rw [← hm, Int.pow_add, Int.pow_succ]
  have h3 : p ^ q * 2 ≤ p ^ q * p := Int.mul_le_mul_of_nonneg_left (by have := (nn_p_pos hp).2.1; omega) (by omega)
  have h4 : p ^ q * p * 1 ≤ p ^ q * p * p ^ m := Int.mul_le_mul_of_nonneg_left h2 (by omega)
  omega
theorem w_l3 (hX : ∀ j, pj_rg (X.2 j)) (hL : X.1 ≤ 260) (ht : tt_ok p N T) (h2N : 2 ≤ N) (hn : n = N) (hb : tt_br p N T br) {D : Nat} (hk : k = D) (hD : D ≤ 6) (hs0 : fs 0 = 0) {wh : Int} {x8 : pj_V} (hQ : ∀ (k p n a1 a2 a3 b1 b2 b3 e1 e2 e3 g1 g2 g3 q1 q2 q3 d1 d2 l sq sg t1 t2 : Int) (br fW f1 f2 fr fq dr nf ng ft dt f fs : Nat → Int), Q (some (.inl 1)) (wP k p n a1 a2 a3 b1 b2 b3 e1 e2 e3 g1 g2 g3 q1 q2 q3 d1 d2 l sq sg t1 t2 br fW f1 f2 fr fq dr nf ng ft dt f fs)) : ∀ (m t : Nat) (z : Int) (x7 : pj_V) (a1 a2 a3 b1 b2 b3 e1 e2 e3 g1 g2 g3 q1 q2 q3 : Int) (fW f1 f2 fr fq : Nat → Int), t + m = 3 → z = t → pj_WT X m_Lw_law 197 [.inr 1002, .inr 0, .inl wh, .inl p, .inl n, .inl (p ^ N), .inl z, x7, x8, .inr 1000, .inr 1000, .inr 1000, .inr 1000, .inr 1000, .inr 1000, .inr 1000, .inr 1000] [] (wP k p n a1 a2 a3 b1 b2 b3 e1 e2 e3 g1 g2 g3 q1 q2 q3 d1 d2 l sq sg t1 t2 br fW f1 f2 fr fq dr nf ng ft dt f fs) Q := by
  obtain ⟨hp, h1N, hN, hT, -⟩ := id ht
  obtain ⟨hp1, hp2, hp3⟩ := nn_p_pos hp
  have hpw := nn_pwle hp N hN
  intro m
  induction m with
  | zero =>
    intro t z x7 a1 a2 a3 b1 b2 b3 e1 e2 e3 g1 g2 g3 q1 q2 q3 fW f1 f2 fr fq ht3 hz
    refine wt_b rfl (by omega) (fun ee => ?_) (fun ee => absurd ee (by omega))
    exact w_mid hX hL ht h2N hn hb hk hD hs0 hQ
  | succ m ih =>
    intro t z x7 a1 a2 a3 b1 b2 b3 e1 e2 e3 g1 g2 g3 q1 q2 q3 fW f1 f2 fr fq ht3 hz
    have hpp := pw_rg hp hN
    refine wt_b rfl (by omega) (fun ee => absurd ee (by omega)) (fun ee => ?_)
    refine wt_f rfl (by omega) [] (s_cell hX hL ⟨by omega, by omega⟩ (fun y hy => ?_)) rfl rfl rfl rfl
    refine wt_n [.inl y] (wP k p n a1 a2 a3 b1 b2 b3 e1 e2 e3 g1 g2 g3 q1 q2 q3 d1 d2 l sq sg t1 t2 br fW f1 f2 fr fq dr nf ng ft dt f fs) rfl rfl ?_
    refine wt_f rfl (by omega) [] (s_low ⟨by omega, by omega⟩ (fun u u1 u2 => ?_)) rfl rfl rfl rfl
    refine wt_n [.inl u, .inl n, .inl p, .inr 0] (wP k p n a1 a2 a3 b1 b2 b3 e1 e2 e3 g1 g2 g3 q1 q2 q3 d1 d2 l sq sg t1 t2 br fW f1 f2 fr fq dr nf ng ft dt f fs) rfl rfl ?_
    refine wt_f rfl (by omega) [] (s_cell hX hL ⟨by omega, by omega⟩ (fun x hx => ?_)) rfl rfl rfl rfl
    refine wt_n [.inl x, .inl u, .inl n, .inl p, .inr 0] (wP k p n a1 a2 a3 b1 b2 b3 e1 e2 e3 g1 g2 g3 q1 q2 q3 d1 d2 l sq sg t1 t2 br fW f1 f2 fr fq dr nf ng ft dt f fs) rfl rfl ?_
    refine wt_f rfl (by omega) [] (s_low ⟨by omega, by omega⟩ (fun v v1 v2 => ?_)) rfl rfl rfl rfl
    refine wt_n [.inl v, .inl u, .inl n, .inl p, .inr 0] (wP k p n a1 a2 a3 b1 b2 b3 e1 e2 e3 g1 g2 g3 q1 q2 q3 d1 d2 l sq sg t1 t2 br fW f1 f2 fr fq dr nf ng ft dt f fs) rfl rfl ?_
    refine wt_f rfl (by omega) [] (s_low ⟨by omega, by omega⟩ (fun w w1 w2 => ?_)) rfl rfl rfl rfl
    refine wt_n [.inl w, .inl v, .inl u, .inl n, .inl p, .inr 0] (wP k p n a1 a2 a3 b1 b2 b3 e1 e2 e3 g1 g2 g3 q1 q2 q3 d1 d2 l sq sg t1 t2 br fW f1 f2 fr fq dr nf ng ft dt f fs) rfl rfl ?_
    refine wt_f rfl (by omega) [] (s_low ⟨by omega, by omega⟩ (fun c c1 c2 => ?_)) rfl rfl rfl rfl
    refine wt_n [.inl c, .inl w, .inl v, .inl u, .inl n, .inl p, .inr 0] (wP k p n a1 a2 a3 b1 b2 b3 e1 e2 e3 g1 g2 g3 q1 q2 q3 d1 d2 l sq sg t1 t2 br fW f1 f2 fr fq dr nf ng ft dt f fs) rfl rfl ?_
    refine wt_f rfl (by omega) [0, 1, 2, 3, 4, 5, 6, 7, 8, 9, 10, 11, 12, 13, 14] (g_linear ht hb hn ⟨u1, u2⟩ ⟨v1, v2⟩ ⟨w1, w2⟩ ⟨c1, c2⟩ (fun a1 a2 a3 b1 b2 b3 e1 e2 e3 g1 g2 g3 q1 q2 q3 fW f1 f2 fr fq => ?_)) rfl rfl rfl rfl
    refine wt_n [.inl 1] (wP k p n a1 a2 a3 b1 b2 b3 e1 e2 e3 g1 g2 g3 q1 q2 q3 d1 d2 l sq sg t1 t2 br fW f1 f2 fr fq dr nf ng ft dt f fs) rfl rfl ?_
    refine wt_b rfl (by omega) (fun ee => ?_) (fun ee => absurd (by omega) ee)
    refine wt_g rfl (by omega) ?_
    exact ih (t + 1) _ _ _ _ _ _ _ _ _ _ _ _ _ _ _ _ _ _ _ _ _ _ (by omega) (by omega)
theorem w_s8 (hX : ∀ j, pj_rg (X.2 j)) (hL : X.1 ≤ 260) (hp : nn_p p) (hN : N ≤ 5) (h2N : 2 ≤ N) (hn : n = N) (hs0 : fs 0 = 0) {wh : Int} (hQ : ∀ (k p n a1 a2 a3 b1 b2 b3 e1 e2 e3 g1 g2 g3 q1 q2 q3 d1 d2 l sq sg t1 t2 : Int) (br fW f1 f2 fr fq dr nf ng ft dt f fs : Nat → Int), Q (some (.inl 1)) (wP k p n a1 a2 a3 b1 b2 b3 e1 e2 e3 g1 g2 g3 q1 q2 q3 d1 d2 l sq sg t1 t2 br fW f1 f2 fr fq dr nf ng ft dt f fs)) : ∀ (m t : Nat) (z k : Int) (br f : Nat → Int) (T : Nat → Nat → Nat → Int) (D : Nat) (x7 x8 : pj_V), t + m = 8 → z = t → tt_ok p N T → tt_br p N T br → k = D → D ≤ 6 → pj_WT X m_Lw_law 87 [.inr 1002, .inr 0, .inl wh, .inl p, .inl n, .inl (p ^ N), .inl z, x7, x8, .inr 1000, .inr 1000, .inr 1000, .inr 1000, .inr 1000, .inr 1000, .inr 1000, .inr 1000] [] (wP k p n a1 a2 a3 b1 b2 b3 e1 e2 e3 g1 g2 g3 q1 q2 q3 d1 d2 l sq sg t1 t2 br fW f1 f2 fr fq dr nf ng ft dt f fs) Q := by
  have hpp := pw_rg hp hN
  obtain ⟨hp1, hp2, hp3⟩ := nn_p_pos hp
  intro m
  induction m with
  | zero =>
    intro t z k br f T D x7 x8 ht8 hz ht hb hk hD
    refine wt_b rfl (by omega) (fun ee => ?_) (fun ee => absurd ee (by omega))
    refine wt_f rfl (by omega) [0, 1, 2, 3, 4, 5, 6, 7, 8, 9, 10, 11, 12, 13, 14] (g_falls ht hb hn (fun a1 a2 a3 b1 b2 b3 e1 e2 e3 g1 g2 g3 q1 q2 q3 fW f1 f2 fr fq => ?_)) rfl rfl rfl rfl
    refine wt_n [.inl 1] (wP k p n a1 a2 a3 b1 b2 b3 e1 e2 e3 g1 g2 g3 q1 q2 q3 d1 d2 l sq sg t1 t2 br fW f1 f2 fr fq dr nf ng ft dt f fs) rfl rfl ?_
    refine wt_b rfl (by omega) (fun ee => ?_) (fun ee => absurd (by omega) ee)
    refine wt_g rfl (by omega) ?_
    exact w_l3 hX hL ht h2N hn hb hk hD hs0 hQ 3 0 _ _ _ _ _ _ _ _ _ _ _ _ _ _ _ _ _ _ _ _ _ _ (by omega) (by omega)
  | succ m ih =>
    intro t z k br f T D x7 x8 ht8 hz ht hb hk hD
    refine wt_b rfl (by omega) (fun ee => absurd ee (by omega)) (fun ee => ?_)
    refine wt_f rfl (by omega) [] (s_cell hX hL ⟨by omega, by omega⟩ (fun y hy => ?_)) rfl rfl rfl rfl
    refine wt_n [.inl y] (wP k p n a1 a2 a3 b1 b2 b3 e1 e2 e3 g1 g2 g3 q1 q2 q3 d1 d2 l sq sg t1 t2 br fW f1 f2 fr fq dr nf ng ft dt f fs) rfl rfl ?_
    have cont : ∀ v, 0 ≤ v → v < p ^ N → pj_WT X m_Lw_law 150 [.inr 1002, .inr 0, .inl wh, .inl p, .inl n, .inl (p ^ N), .inl z, .inl y, x8, .inr 1000, .inr 1000, .inr 1000, .inr 1000, .inr 1000, .inr 1000, .inr 1000, .inr 1000] [.inl v] (wP k p n a1 a2 a3 b1 b2 b3 e1 e2 e3 g1 g2 g3 q1 q2 q3 d1 d2 l sq sg t1 t2 br fW f1 f2 fr fq dr nf ng ft dt f fs) Q := by
      intro v v1 v2
      refine wt_f rfl (by omega) [] (s_low ⟨by omega, by omega⟩ (fun i i1 i2 => ?_)) rfl rfl rfl rfl
      refine wt_n [.inl i, .inr 0] (wP k p n a1 a2 a3 b1 b2 b3 e1 e2 e3 g1 g2 g3 q1 q2 q3 d1 d2 l sq sg t1 t2 br fW f1 f2 fr fq dr nf ng ft dt f fs) rfl rfl ?_
      refine wt_f rfl (by omega) [] (s_low ⟨by omega, by omega⟩ (fun j j1 j2 => ?_)) rfl rfl rfl rfl
      refine wt_n [.inl j, .inl i, .inr 0] (wP k p n a1 a2 a3 b1 b2 b3 e1 e2 e3 g1 g2 g3 q1 q2 q3 d1 d2 l sq sg t1 t2 br fW f1 f2 fr fq dr nf ng ft dt f fs) rfl rfl ?_
      refine wt_f rfl (by omega) [0, 1, 2, 24, 25] (l_setBracket ht hb hn hk hD ⟨by omega, by omega⟩ ⟨by omega, by omega⟩ ⟨by omega, by omega⟩ (fun _ => ?_) (fun I J br' hI hJ hI2 hJ2 hne x1 x2 hb' => ?_)) rfl rfl rfl rfl
      · refine wt_n [.inl (-1)] (wP k p n a1 a2 a3 b1 b2 b3 e1 e2 e3 g1 g2 g3 q1 q2 q3 d1 d2 l sq sg t1 t2 br fW f1 f2 fr fq dr nf ng ft dt f fs) rfl rfl ?_
        refine wt_g rfl (by omega) ?_
        exact ih (t + 1) _ _ _ _ T D _ _ (by omega) (by omega) ht hb hk hD
      · refine wt_n [.inl (nn_nm p N (T I J))] (wP ((if D = 6 then 6 else k + 1)) p n a1 a2 a3 b1 b2 b3 e1 e2 e3 g1 g2 g3 q1 q2 q3 d1 d2 l sq sg t1 t2 br' fW f1 f2 fr fq dr nf ng ft dt ((hk_f D f p n br)) fs) rfl rfl ?_
        refine wt_g rfl (by omega) ?_
        obtain ⟨D', eD, kD, hD', hD1⟩ := zc_D hk hD
        exact ih (t + 1) _ _ _ _ (sb_T p N T I J v) D' _ _ (by omega) (by omega) (sb_T_ok ht hI2 hJ2 hne) hb' kD hD'
    obtain ⟨ra, rb⟩ := pj_and_rg y 3
    refine wt_b rfl (by omega) (fun ee => ?_) (fun ee => ?_)
    · refine wt_b rfl (by omega) (fun ef => ?_) (fun ef => ?_)
      · refine wt_f rfl (by omega) [] (s_low ⟨by omega, by omega⟩ (fun v v1 v2 => ?_)) rfl rfl rfl rfl
        refine wt_n [.inl v] (wP k p n a1 a2 a3 b1 b2 b3 e1 e2 e3 g1 g2 g3 q1 q2 q3 d1 d2 l sq sg t1 t2 br fW f1 f2 fr fq dr nf ng ft dt f fs) rfl rfl ?_
        exact cont v v1 v2
      · refine wt_t 2 rfl (by omega) ?_
        exact cont 0 (by omega) (by omega)
    · refine wt_f rfl (by omega) [] (s_low ⟨by omega, by omega⟩ (fun q qa qb => ?_)) rfl rfl rfl rfl
      refine wt_n [.inl q, .inl p] (wP k p n a1 a2 a3 b1 b2 b3 e1 e2 e3 g1 g2 g3 q1 q2 q3 d1 d2 l sq sg t1 t2 br fW f1 f2 fr fq dr nf ng ft dt f fs) rfl rfl ?_
      refine wt_f rfl (by omega) [] (s_power (E := q.toNat) (by omega) (by omega) ?_) rfl rfl rfl rfl
      refine wt_n [.inl (p ^ q.toNat)] (wP k p n a1 a2 a3 b1 b2 b3 e1 e2 e3 g1 g2 g3 q1 q2 q3 d1 d2 l sq sg t1 t2 br fW f1 f2 fr fq dr nf ng ft dt f fs) rfl rfl ?_
      have pl := pw_lt (N := N) hp (show q.toNat < N by omega)
      have pg := nn_pw1 hp1 q.toNat
      refine wt_t 1 rfl (by omega) ?_
      exact cont _ (by omega) pl
theorem w_46 (hX : ∀ j, pj_rg (X.2 j)) (hL : X.1 ≤ 260) (hp : nn_p p) (hs0 : fs 0 = 0) {wh : Int} (hQ : ∀ (k p n a1 a2 a3 b1 b2 b3 e1 e2 e3 g1 g2 g3 q1 q2 q3 d1 d2 l sq sg t1 t2 : Int) (br fW f1 f2 fr fq dr nf ng ft dt f fs : Nat → Int), Q (some (.inl 1)) (wP k p n a1 a2 a3 b1 b2 b3 e1 e2 e3 g1 g2 g3 q1 q2 q3 d1 d2 l sq sg t1 t2 br fW f1 f2 fr fq dr nf ng ft dt f fs)) : pj_WT X m_Lw_law 46 [.inr 1002, .inr 0, .inl wh, .inr 1000, .inr 1000, .inr 1000, .inr 1000, .inr 1000, .inr 1000, .inr 1000, .inr 1000, .inr 1000, .inr 1000, .inr 1000, .inr 1000, .inr 1000, .inr 1000] [.inl p] (wP 0 3 3 a1 a2 a3 b1 b2 b3 e1 e2 e3 g1 g2 g3 q1 q2 q3 d1 d2 l sq sg t1 t2 br fW f1 f2 fr fq dr nf ng ft dt f fs) Q := by
  obtain ⟨hp1, hp2, hp3⟩ := nn_p_pos hp
  refine wt_f rfl (by omega) [] (s_cell hX hL ⟨by omega, by omega⟩ (fun y hy => ?_)) rfl rfl rfl rfl
  refine wt_n [.inl y, .inl 2] (wP 0 3 3 a1 a2 a3 b1 b2 b3 e1 e2 e3 g1 g2 g3 q1 q2 q3 d1 d2 l sq sg t1 t2 br fW f1 f2 fr fq dr nf ng ft dt f fs) rfl rfl ?_
  refine wt_f rfl (by omega) [] (s_low ⟨by omega, by omega⟩ (fun r r1 r2 => ?_)) rfl rfl rfl rfl
  refine wt_n [.inl r, .inl 2] (wP 0 3 3 a1 a2 a3 b1 b2 b3 e1 e2 e3 g1 g2 g3 q1 q2 q3 d1 d2 l sq sg t1 t2 br fW f1 f2 fr fq dr nf ng ft dt f fs) rfl rfl ?_
  obtain ⟨N, eN⟩ : ∃ N : Nat, 2 + r = N := ⟨(2 + r).toNat, by omega⟩
  refine wt_f rfl (by omega) [] (s_power (E := N) (by omega) eN ?_) rfl rfl rfl rfl
  refine wt_n [.inl (p ^ N)] (wP 0 3 3 a1 a2 a3 b1 b2 b3 e1 e2 e3 g1 g2 g3 q1 q2 q3 d1 d2 l sq sg t1 t2 br fW f1 f2 fr fq dr nf ng ft dt f fs) rfl rfl ?_
  have hpp := pw_rg (N := N) hp (by omega)
  refine wt_f rfl (by omega) [0, 1, 2, 24, 25] (l_configure (N := 3) (D := 0) (by unfold nn_p; omega) (by omega) rfl rfl (by omega) ⟨by omega, by omega⟩ ⟨by omega, by omega⟩ (fun h => absurd ⟨hp, by omega, by omega⟩ h) (fun M hpM hM hM1 hM5 => ?_)) rfl rfl rfl rfl
  have eM : M = N := by omega
  subst eM
  refine wt_n [.inl (p ^ M)] (wP 1 p ((2 + r)) a1 a2 a3 b1 b2 b3 e1 e2 e3 g1 g2 g3 q1 q2 q3 d1 d2 l sq sg t1 t2 ((fun q => if q < 25 then 0 else br q)) fW f1 f2 fr fq dr nf ng ft dt ((hk_f 0 f 3 3 br)) fs) rfl rfl ?_
  refine wt_b rfl (by omega) (fun ee => ?_) (fun ee => absurd rfl ee)
  refine wt_g rfl (by omega) ?_
  exact w_s8 hX hL hp (by omega) (by omega) eN hs0 hQ 8 0 _ _ _ _ (fun _ _ _ => 0) 1 _ _ (by omega) (by omega) (tt_ok0 hp (by omega) (by omega)) (tt_br0 p M br) rfl (by omega)
theorem lw_top (hX : ∀ j, pj_rg (X.2 j)) (hL : X.1 ≤ 260) (hQ : ∀ (k p n a1 a2 a3 b1 b2 b3 e1 e2 e3 g1 g2 g3 q1 q2 q3 d1 d2 l sq sg t1 t2 : Int) (br fW f1 f2 fr fq dr nf ng ft dt f fs : Nat → Int), Q (some (.inl 1)) (wP k p n a1 a2 a3 b1 b2 b3 e1 e2 e3 g1 g2 g3 q1 q2 q3 d1 d2 l sq sg t1 t2 br fW f1 f2 fr fq dr nf ng ft dt f fs)) : pj_WT X m_Lw_law 0 [.inr 1002, .inr 1000, .inr 1000, .inr 1000, .inr 1000, .inr 1000, .inr 1000, .inr 1000, .inr 1000, .inr 1000, .inr 1000, .inr 1000, .inr 1000, .inr 1000, .inr 1000, .inr 1000, .inr 1000] [] [] Q := by
  refine wt_c rfl (by omega) ?_
  refine wt_c rfl (by omega) ?_
  refine wt_r rfl (by omega) ⟨Or.inr rfl, ?_⟩
  refine wt_h [.inr (7, [.inr 1001, .inr 1001, .inr 1001, .inr 1001, .inr 1001, .inr 1001, .inr 1001, .inl 0]), .inr (6, [.inl 3, .inl 3, .inr 2]), .inl (0, 25, fun _ => 0)] rfl ?_
  refine wt_c rfl (by omega) ?_
  refine wt_c rfl (by omega) ?_
  refine wt_f rfl (by omega) [] (c_min (x := 5) (y := 25) ⟨by omega, by omega⟩ ⟨by omega, by omega⟩ ?_) rfl rfl rfl rfl
  refine wt_n [.inl 5, .inl 1, .inr 4] [.inr (7, [.inr 1, .inr 1001, .inr 1001, .inr 1001, .inr 1001, .inr 1001, .inr 1001, .inl 0]), .inr (6, [.inl 3, .inl 3, .inr 2]), .inl (0, 25, fun _ => 0), .inr (4, [.inr 1001, .inr 1001, .inr 1001, .inr 1001]), .inr (5, [.inl 0, .inr 1001, .inl 3, .inl 0, .inl 0])] rfl rfl ?_
  refine wt_f rfl (by omega) [] (c_max (x := 1) (y := 5) ⟨by omega, by omega⟩ ⟨by omega, by omega⟩ ?_) rfl rfl rfl rfl
  refine wt_n [.inl 5, .inr 4] [.inr (7, [.inr 1, .inr 1001, .inr 1001, .inr 1001, .inr 1001, .inr 1001, .inr 1001, .inl 0]), .inr (6, [.inl 3, .inl 3, .inr 2]), .inl (0, 25, fun _ => 0), .inr (4, [.inr 1001, .inr 1001, .inr 1001, .inr 1001]), .inr (5, [.inl 0, .inr 1001, .inl 3, .inl 0, .inl 0])] rfl rfl ?_
  refine wt_r rfl (by omega) ⟨Or.inr rfl, ?_⟩
  refine wt_h [.inr (7, [.inr 1, .inr 1001, .inr 1001, .inr 1001, .inr 1001, .inr 1001, .inr 1001, .inl 0]), .inr (6, [.inl 3, .inl 3, .inr 2]), .inl (0, 25, fun _ => 0), .inr (4, [.inr 1001, .inr 1001, .inr 1001, .inr 1001]), .inr (5, [.inl 5, .inr 5, .inl 3, .inl 0, .inl 0]), .inl (0, 30, fun _ => 0)] rfl ?_
  refine wt_c rfl (by omega) ?_
  refine wt_f rfl (by omega) [] (c_min (x := 5) (y := 25) ⟨by omega, by omega⟩ ⟨by omega, by omega⟩ ?_) rfl rfl rfl rfl
  refine wt_n [.inl 5, .inl 1, .inr 6] [.inr (7, [.inr 1, .inr 1001, .inr 1001, .inr 1001, .inr 1001, .inr 1001, .inr 1001, .inl 0]), .inr (6, [.inl 3, .inl 3, .inr 2]), .inl (0, 25, fun _ => 0), .inr (4, [.inr 1001, .inr 4, .inr 1001, .inr 1001]), .inr (5, [.inl 5, .inr 5, .inl 3, .inl 0, .inl 0]), .inl (0, 30, fun _ => 0), .inr (5, [.inl 0, .inr 1001, .inl 3, .inl 0, .inl 0])] rfl rfl ?_
  refine wt_f rfl (by omega) [] (c_max (x := 1) (y := 5) ⟨by omega, by omega⟩ ⟨by omega, by omega⟩ ?_) rfl rfl rfl rfl
  refine wt_n [.inl 5, .inr 6] [.inr (7, [.inr 1, .inr 1001, .inr 1001, .inr 1001, .inr 1001, .inr 1001, .inr 1001, .inl 0]), .inr (6, [.inl 3, .inl 3, .inr 2]), .inl (0, 25, fun _ => 0), .inr (4, [.inr 1001, .inr 4, .inr 1001, .inr 1001]), .inr (5, [.inl 5, .inr 5, .inl 3, .inl 0, .inl 0]), .inl (0, 30, fun _ => 0), .inr (5, [.inl 0, .inr 1001, .inl 3, .inl 0, .inl 0])] rfl rfl ?_
  refine wt_r rfl (by omega) ⟨Or.inr rfl, ?_⟩
  refine wt_h [.inr (7, [.inr 1, .inr 1001, .inr 1001, .inr 1001, .inr 1001, .inr 1001, .inr 1001, .inl 0]), .inr (6, [.inl 3, .inl 3, .inr 2]), .inl (0, 25, fun _ => 0), .inr (4, [.inr 1001, .inr 4, .inr 1001, .inr 1001]), .inr (5, [.inl 5, .inr 5, .inl 3, .inl 0, .inl 0]), .inl (0, 30, fun _ => 0), .inr (5, [.inl 5, .inr 7, .inl 3, .inl 0, .inl 0]), .inl (0, 30, fun _ => 0)] rfl ?_
  refine wt_c rfl (by omega) ?_
  refine wt_f rfl (by omega) [] (c_min (x := 5) (y := 25) ⟨by omega, by omega⟩ ⟨by omega, by omega⟩ ?_) rfl rfl rfl rfl
  refine wt_n [.inl 5, .inl 1, .inr 8] [.inr (7, [.inr 1, .inr 1001, .inr 1001, .inr 1001, .inr 1001, .inr 1001, .inr 1001, .inl 0]), .inr (6, [.inl 3, .inl 3, .inr 2]), .inl (0, 25, fun _ => 0), .inr (4, [.inr 1001, .inr 4, .inr 6, .inr 1001]), .inr (5, [.inl 5, .inr 5, .inl 3, .inl 0, .inl 0]), .inl (0, 30, fun _ => 0), .inr (5, [.inl 5, .inr 7, .inl 3, .inl 0, .inl 0]), .inl (0, 30, fun _ => 0), .inr (5, [.inl 0, .inr 1001, .inl 3, .inl 0, .inl 0])] rfl rfl ?_
  refine wt_f rfl (by omega) [] (c_max (x := 1) (y := 5) ⟨by omega, by omega⟩ ⟨by omega, by omega⟩ ?_) rfl rfl rfl rfl
  refine wt_n [.inl 5, .inr 8] [.inr (7, [.inr 1, .inr 1001, .inr 1001, .inr 1001, .inr 1001, .inr 1001, .inr 1001, .inl 0]), .inr (6, [.inl 3, .inl 3, .inr 2]), .inl (0, 25, fun _ => 0), .inr (4, [.inr 1001, .inr 4, .inr 6, .inr 1001]), .inr (5, [.inl 5, .inr 5, .inl 3, .inl 0, .inl 0]), .inl (0, 30, fun _ => 0), .inr (5, [.inl 5, .inr 7, .inl 3, .inl 0, .inl 0]), .inl (0, 30, fun _ => 0), .inr (5, [.inl 0, .inr 1001, .inl 3, .inl 0, .inl 0])] rfl rfl ?_
  refine wt_r rfl (by omega) ⟨Or.inr rfl, ?_⟩
  refine wt_h [.inr (7, [.inr 1, .inr 1001, .inr 1001, .inr 1001, .inr 1001, .inr 1001, .inr 1001, .inl 0]), .inr (6, [.inl 3, .inl 3, .inr 2]), .inl (0, 25, fun _ => 0), .inr (4, [.inr 1001, .inr 4, .inr 6, .inr 1001]), .inr (5, [.inl 5, .inr 5, .inl 3, .inl 0, .inl 0]), .inl (0, 30, fun _ => 0), .inr (5, [.inl 5, .inr 7, .inl 3, .inl 0, .inl 0]), .inl (0, 30, fun _ => 0), .inr (5, [.inl 5, .inr 9, .inl 3, .inl 0, .inl 0]), .inl (0, 30, fun _ => 0)] rfl ?_
  refine wt_r rfl (by omega) ⟨Or.inr rfl, ?_⟩
  refine wt_h [.inr (7, [.inr 1, .inr 1001, .inr 1001, .inr 1001, .inr 1001, .inr 1001, .inr 1001, .inl 0]), .inr (6, [.inl 3, .inl 3, .inr 2]), .inl (0, 25, fun _ => 0), .inr (4, [.inr 1, .inr 4, .inr 6, .inr 8]), .inr (5, [.inl 5, .inr 5, .inl 3, .inl 0, .inl 0]), .inl (0, 30, fun _ => 0), .inr (5, [.inl 5, .inr 7, .inl 3, .inl 0, .inl 0]), .inl (0, 30, fun _ => 0), .inr (5, [.inl 5, .inr 9, .inl 3, .inl 0, .inl 0]), .inl (0, 30, fun _ => 0)] rfl ?_
  refine wt_c rfl (by omega) ?_
  refine wt_c rfl (by omega) ?_
  refine wt_f rfl (by omega) [] (c_min (x := 5) (y := 25) ⟨by omega, by omega⟩ ⟨by omega, by omega⟩ ?_) rfl rfl rfl rfl
  refine wt_n [.inl 5, .inl 1, .inr 11] [.inr (7, [.inr 1, .inr 3, .inr 1001, .inr 1001, .inr 1001, .inr 1001, .inr 1001, .inl 0]), .inr (6, [.inl 3, .inl 3, .inr 2]), .inl (0, 25, fun _ => 0), .inr (4, [.inr 1, .inr 4, .inr 6, .inr 8]), .inr (5, [.inl 5, .inr 5, .inl 3, .inl 0, .inl 0]), .inl (0, 30, fun _ => 0), .inr (5, [.inl 5, .inr 7, .inl 3, .inl 0, .inl 0]), .inl (0, 30, fun _ => 0), .inr (5, [.inl 5, .inr 9, .inl 3, .inl 0, .inl 0]), .inl (0, 30, fun _ => 0), .inr (1, [.inr 1001, .inr 1001, .inr 1001]), .inr (5, [.inl 0, .inr 1001, .inl 3, .inl 0, .inl 0])] rfl rfl ?_
  refine wt_f rfl (by omega) [] (c_max (x := 1) (y := 5) ⟨by omega, by omega⟩ ⟨by omega, by omega⟩ ?_) rfl rfl rfl rfl
  refine wt_n [.inl 5, .inr 11] [.inr (7, [.inr 1, .inr 3, .inr 1001, .inr 1001, .inr 1001, .inr 1001, .inr 1001, .inl 0]), .inr (6, [.inl 3, .inl 3, .inr 2]), .inl (0, 25, fun _ => 0), .inr (4, [.inr 1, .inr 4, .inr 6, .inr 8]), .inr (5, [.inl 5, .inr 5, .inl 3, .inl 0, .inl 0]), .inl (0, 30, fun _ => 0), .inr (5, [.inl 5, .inr 7, .inl 3, .inl 0, .inl 0]), .inl (0, 30, fun _ => 0), .inr (5, [.inl 5, .inr 9, .inl 3, .inl 0, .inl 0]), .inl (0, 30, fun _ => 0), .inr (1, [.inr 1001, .inr 1001, .inr 1001]), .inr (5, [.inl 0, .inr 1001, .inl 3, .inl 0, .inl 0])] rfl rfl ?_
  refine wt_r rfl (by omega) ⟨Or.inr rfl, ?_⟩
  refine wt_h [.inr (7, [.inr 1, .inr 3, .inr 1001, .inr 1001, .inr 1001, .inr 1001, .inr 1001, .inl 0]), .inr (6, [.inl 3, .inl 3, .inr 2]), .inl (0, 25, fun _ => 0), .inr (4, [.inr 1, .inr 4, .inr 6, .inr 8]), .inr (5, [.inl 5, .inr 5, .inl 3, .inl 0, .inl 0]), .inl (0, 30, fun _ => 0), .inr (5, [.inl 5, .inr 7, .inl 3, .inl 0, .inl 0]), .inl (0, 30, fun _ => 0), .inr (5, [.inl 5, .inr 9, .inl 3, .inl 0, .inl 0]), .inl (0, 30, fun _ => 0), .inr (1, [.inr 1001, .inr 1001, .inr 1001]), .inr (5, [.inl 5, .inr 12, .inl 3, .inl 0, .inl 0]), .inl (0, 30, fun _ => 0)] rfl ?_
  refine wt_c rfl (by omega) ?_
  refine wt_f rfl (by omega) [] (c_min (x := 25) (y := 25) ⟨by omega, by omega⟩ ⟨by omega, by omega⟩ ?_) rfl rfl rfl rfl
  refine wt_n [.inl 25, .inl 1, .inr 13] [.inr (7, [.inr 1, .inr 3, .inr 1001, .inr 1001, .inr 1001, .inr 1001, .inr 1001, .inl 0]), .inr (6, [.inl 3, .inl 3, .inr 2]), .inl (0, 25, fun _ => 0), .inr (4, [.inr 1, .inr 4, .inr 6, .inr 8]), .inr (5, [.inl 5, .inr 5, .inl 3, .inl 0, .inl 0]), .inl (0, 30, fun _ => 0), .inr (5, [.inl 5, .inr 7, .inl 3, .inl 0, .inl 0]), .inl (0, 30, fun _ => 0), .inr (5, [.inl 5, .inr 9, .inl 3, .inl 0, .inl 0]), .inl (0, 30, fun _ => 0), .inr (1, [.inr 1001, .inr 11, .inr 1001]), .inr (5, [.inl 5, .inr 12, .inl 3, .inl 0, .inl 0]), .inl (0, 30, fun _ => 0), .inr (5, [.inl 0, .inr 1001, .inl 3, .inl 0, .inl 0])] rfl rfl ?_
  refine wt_f rfl (by omega) [] (c_max (x := 1) (y := 25) ⟨by omega, by omega⟩ ⟨by omega, by omega⟩ ?_) rfl rfl rfl rfl
  refine wt_n [.inl 25, .inr 13] [.inr (7, [.inr 1, .inr 3, .inr 1001, .inr 1001, .inr 1001, .inr 1001, .inr 1001, .inl 0]), .inr (6, [.inl 3, .inl 3, .inr 2]), .inl (0, 25, fun _ => 0), .inr (4, [.inr 1, .inr 4, .inr 6, .inr 8]), .inr (5, [.inl 5, .inr 5, .inl 3, .inl 0, .inl 0]), .inl (0, 30, fun _ => 0), .inr (5, [.inl 5, .inr 7, .inl 3, .inl 0, .inl 0]), .inl (0, 30, fun _ => 0), .inr (5, [.inl 5, .inr 9, .inl 3, .inl 0, .inl 0]), .inl (0, 30, fun _ => 0), .inr (1, [.inr 1001, .inr 11, .inr 1001]), .inr (5, [.inl 5, .inr 12, .inl 3, .inl 0, .inl 0]), .inl (0, 30, fun _ => 0), .inr (5, [.inl 0, .inr 1001, .inl 3, .inl 0, .inl 0])] rfl rfl ?_
  refine wt_r rfl (by omega) ⟨Or.inr rfl, ?_⟩
  refine wt_h [.inr (7, [.inr 1, .inr 3, .inr 1001, .inr 1001, .inr 1001, .inr 1001, .inr 1001, .inl 0]), .inr (6, [.inl 3, .inl 3, .inr 2]), .inl (0, 25, fun _ => 0), .inr (4, [.inr 1, .inr 4, .inr 6, .inr 8]), .inr (5, [.inl 5, .inr 5, .inl 3, .inl 0, .inl 0]), .inl (0, 30, fun _ => 0), .inr (5, [.inl 5, .inr 7, .inl 3, .inl 0, .inl 0]), .inl (0, 30, fun _ => 0), .inr (5, [.inl 5, .inr 9, .inl 3, .inl 0, .inl 0]), .inl (0, 30, fun _ => 0), .inr (1, [.inr 1001, .inr 11, .inr 1001]), .inr (5, [.inl 5, .inr 12, .inl 3, .inl 0, .inl 0]), .inl (0, 30, fun _ => 0), .inr (5, [.inl 25, .inr 14, .inl 3, .inl 0, .inl 0]), .inl (0, 650, fun _ => 0)] rfl ?_
  refine wt_r rfl (by omega) ⟨Or.inr rfl, ?_⟩
  refine wt_h [.inr (7, [.inr 1, .inr 3, .inr 1001, .inr 1001, .inr 1001, .inr 1001, .inr 1001, .inl 0]), .inr (6, [.inl 3, .inl 3, .inr 2]), .inl (0, 25, fun _ => 0), .inr (4, [.inr 1, .inr 4, .inr 6, .inr 8]), .inr (5, [.inl 5, .inr 5, .inl 3, .inl 0, .inl 0]), .inl (0, 30, fun _ => 0), .inr (5, [.inl 5, .inr 7, .inl 3, .inl 0, .inl 0]), .inl (0, 30, fun _ => 0), .inr (5, [.inl 5, .inr 9, .inl 3, .inl 0, .inl 0]), .inl (0, 30, fun _ => 0), .inr (1, [.inr 1, .inr 11, .inr 13]), .inr (5, [.inl 5, .inr 12, .inl 3, .inl 0, .inl 0]), .inl (0, 30, fun _ => 0), .inr (5, [.inl 25, .inr 14, .inl 3, .inl 0, .inl 0]), .inl (0, 650, fun _ => 0)] rfl ?_
  refine wt_c rfl (by omega) ?_
  refine wt_c rfl (by omega) ?_
  refine wt_r rfl (by omega) ⟨Or.inr rfl, ?_⟩
  refine wt_h [.inr (7, [.inr 1, .inr 3, .inr 10, .inr 1001, .inr 1001, .inr 1001, .inr 1001, .inl 0]), .inr (6, [.inl 3, .inl 3, .inr 2]), .inl (0, 25, fun _ => 0), .inr (4, [.inr 1, .inr 4, .inr 6, .inr 8]), .inr (5, [.inl 5, .inr 5, .inl 3, .inl 0, .inl 0]), .inl (0, 30, fun _ => 0), .inr (5, [.inl 5, .inr 7, .inl 3, .inl 0, .inl 0]), .inl (0, 30, fun _ => 0), .inr (5, [.inl 5, .inr 9, .inl 3, .inl 0, .inl 0]), .inl (0, 30, fun _ => 0), .inr (1, [.inr 1, .inr 11, .inr 13]), .inr (5, [.inl 5, .inr 12, .inl 3, .inl 0, .inl 0]), .inl (0, 30, fun _ => 0), .inr (5, [.inl 25, .inr 14, .inl 3, .inl 0, .inl 0]), .inl (0, 650, fun _ => 0), .inr (0, [.inr 1001, .inr 1001, .inr 1001, .inr 1001]), .inr (6, [.inl 3, .inl 3, .inr 17]), .inl (0, 25, fun _ => 0)] rfl ?_
  refine wt_r rfl (by omega) ⟨Or.inr rfl, ?_⟩
  refine wt_h [.inr (7, [.inr 1, .inr 3, .inr 10, .inr 1001, .inr 1001, .inr 1001, .inr 1001, .inl 0]), .inr (6, [.inl 3, .inl 3, .inr 2]), .inl (0, 25, fun _ => 0), .inr (4, [.inr 1, .inr 4, .inr 6, .inr 8]), .inr (5, [.inl 5, .inr 5, .inl 3, .inl 0, .inl 0]), .inl (0, 30, fun _ => 0), .inr (5, [.inl 5, .inr 7, .inl 3, .inl 0, .inl 0]), .inl (0, 30, fun _ => 0), .inr (5, [.inl 5, .inr 9, .inl 3, .inl 0, .inl 0]), .inl (0, 30, fun _ => 0), .inr (1, [.inr 1, .inr 11, .inr 13]), .inr (5, [.inl 5, .inr 12, .inl 3, .inl 0, .inl 0]), .inl (0, 30, fun _ => 0), .inr (5, [.inl 25, .inr 14, .inl 3, .inl 0, .inl 0]), .inl (0, 650, fun _ => 0), .inr (0, [.inr 1, .inr 16, .inr 18, .inr 19]), .inr (6, [.inl 3, .inl 3, .inr 17]), .inl (0, 25, fun _ => 0), .inl (0, 5, fun _ => 0), .inl (0, 5, fun _ => 0)] rfl ?_
  refine wt_c rfl (by omega) ?_
  refine wt_c rfl (by omega) ?_
  refine wt_r rfl (by omega) ⟨Or.inr rfl, ?_⟩
  refine wt_h [.inr (7, [.inr 1, .inr 3, .inr 10, .inr 15, .inr 1001, .inr 1001, .inr 1001, .inl 0]), .inr (6, [.inl 3, .inl 3, .inr 2]), .inl (0, 25, fun _ => 0), .inr (4, [.inr 1, .inr 4, .inr 6, .inr 8]), .inr (5, [.inl 5, .inr 5, .inl 3, .inl 0, .inl 0]), .inl (0, 30, fun _ => 0), .inr (5, [.inl 5, .inr 7, .inl 3, .inl 0, .inl 0]), .inl (0, 30, fun _ => 0), .inr (5, [.inl 5, .inr 9, .inl 3, .inl 0, .inl 0]), .inl (0, 30, fun _ => 0), .inr (1, [.inr 1, .inr 11, .inr 13]), .inr (5, [.inl 5, .inr 12, .inl 3, .inl 0, .inl 0]), .inl (0, 30, fun _ => 0), .inr (5, [.inl 25, .inr 14, .inl 3, .inl 0, .inl 0]), .inl (0, 650, fun _ => 0), .inr (0, [.inr 1, .inr 16, .inr 18, .inr 19]), .inr (6, [.inl 3, .inl 3, .inr 17]), .inl (0, 25, fun _ => 0), .inl (0, 5, fun _ => 0), .inl (0, 5, fun _ => 0), .inr (2, [.inr 21, .inr 1001, .inl 0, .inl 0, .inl 0]), .inl (0, 120, fun _ => 0), .inr (6, [.inl 3, .inl 3, .inr 23]), .inl (0, 25, fun _ => 0)] rfl ?_
  refine wt_r rfl (by omega) ⟨Or.inr rfl, ?_⟩
  refine wt_h [.inr (7, [.inr 1, .inr 3, .inr 10, .inr 15, .inr 1001, .inr 1001, .inr 1001, .inl 0]), .inr (6, [.inl 3, .inl 3, .inr 2]), .inl (0, 25, fun _ => 0), .inr (4, [.inr 1, .inr 4, .inr 6, .inr 8]), .inr (5, [.inl 5, .inr 5, .inl 3, .inl 0, .inl 0]), .inl (0, 30, fun _ => 0), .inr (5, [.inl 5, .inr 7, .inl 3, .inl 0, .inl 0]), .inl (0, 30, fun _ => 0), .inr (5, [.inl 5, .inr 9, .inl 3, .inl 0, .inl 0]), .inl (0, 30, fun _ => 0), .inr (1, [.inr 1, .inr 11, .inr 13]), .inr (5, [.inl 5, .inr 12, .inl 3, .inl 0, .inl 0]), .inl (0, 30, fun _ => 0), .inr (5, [.inl 25, .inr 14, .inl 3, .inl 0, .inl 0]), .inl (0, 650, fun _ => 0), .inr (0, [.inr 1, .inr 16, .inr 18, .inr 19]), .inr (6, [.inl 3, .inl 3, .inr 17]), .inl (0, 25, fun _ => 0), .inl (0, 5, fun _ => 0), .inl (0, 5, fun _ => 0), .inr (2, [.inr 21, .inr 22, .inl 0, .inl 0, .inl 0]), .inl (0, 120, fun _ => 0), .inr (6, [.inl 3, .inl 3, .inr 23]), .inl (0, 25, fun _ => 0)] rfl ?_
  refine wt_c rfl (by omega) ?_
  refine wt_f rfl (by omega) [] (c_min (x := 6) (y := 6) ⟨by omega, by omega⟩ ⟨by omega, by omega⟩ ?_) rfl rfl rfl rfl
  refine wt_n [.inl 6, .inl 1, .inr 24] [.inr (7, [.inr 1, .inr 3, .inr 10, .inr 15, .inr 20, .inr 1001, .inr 1001, .inl 0]), .inr (6, [.inl 3, .inl 3, .inr 2]), .inl (0, 25, fun _ => 0), .inr (4, [.inr 1, .inr 4, .inr 6, .inr 8]), .inr (5, [.inl 5, .inr 5, .inl 3, .inl 0, .inl 0]), .inl (0, 30, fun _ => 0), .inr (5, [.inl 5, .inr 7, .inl 3, .inl 0, .inl 0]), .inl (0, 30, fun _ => 0), .inr (5, [.inl 5, .inr 9, .inl 3, .inl 0, .inl 0]), .inl (0, 30, fun _ => 0), .inr (1, [.inr 1, .inr 11, .inr 13]), .inr (5, [.inl 5, .inr 12, .inl 3, .inl 0, .inl 0]), .inl (0, 30, fun _ => 0), .inr (5, [.inl 25, .inr 14, .inl 3, .inl 0, .inl 0]), .inl (0, 650, fun _ => 0), .inr (0, [.inr 1, .inr 16, .inr 18, .inr 19]), .inr (6, [.inl 3, .inl 3, .inr 17]), .inl (0, 25, fun _ => 0), .inl (0, 5, fun _ => 0), .inl (0, 5, fun _ => 0), .inr (2, [.inr 21, .inr 22, .inl 0, .inl 0, .inl 0]), .inl (0, 120, fun _ => 0), .inr (6, [.inl 3, .inl 3, .inr 23]), .inl (0, 25, fun _ => 0), .inr (3, [.inl 0, .inr 1001])] rfl rfl ?_
  refine wt_f rfl (by omega) [] (c_max (x := 1) (y := 6) ⟨by omega, by omega⟩ ⟨by omega, by omega⟩ ?_) rfl rfl rfl rfl
  refine wt_n [.inl 6, .inr 24] [.inr (7, [.inr 1, .inr 3, .inr 10, .inr 15, .inr 20, .inr 1001, .inr 1001, .inl 0]), .inr (6, [.inl 3, .inl 3, .inr 2]), .inl (0, 25, fun _ => 0), .inr (4, [.inr 1, .inr 4, .inr 6, .inr 8]), .inr (5, [.inl 5, .inr 5, .inl 3, .inl 0, .inl 0]), .inl (0, 30, fun _ => 0), .inr (5, [.inl 5, .inr 7, .inl 3, .inl 0, .inl 0]), .inl (0, 30, fun _ => 0), .inr (5, [.inl 5, .inr 9, .inl 3, .inl 0, .inl 0]), .inl (0, 30, fun _ => 0), .inr (1, [.inr 1, .inr 11, .inr 13]), .inr (5, [.inl 5, .inr 12, .inl 3, .inl 0, .inl 0]), .inl (0, 30, fun _ => 0), .inr (5, [.inl 25, .inr 14, .inl 3, .inl 0, .inl 0]), .inl (0, 650, fun _ => 0), .inr (0, [.inr 1, .inr 16, .inr 18, .inr 19]), .inr (6, [.inl 3, .inl 3, .inr 17]), .inl (0, 25, fun _ => 0), .inl (0, 5, fun _ => 0), .inl (0, 5, fun _ => 0), .inr (2, [.inr 21, .inr 22, .inl 0, .inl 0, .inl 0]), .inl (0, 120, fun _ => 0), .inr (6, [.inl 3, .inl 3, .inr 23]), .inl (0, 25, fun _ => 0), .inr (3, [.inl 0, .inr 1001])] rfl rfl ?_
  refine wt_r rfl (by omega) ⟨Or.inr rfl, ?_⟩
  refine wt_h [.inr (7, [.inr 1, .inr 3, .inr 10, .inr 15, .inr 20, .inr 1001, .inr 1001, .inl 0]), .inr (6, [.inl 3, .inl 3, .inr 2]), .inl (0, 25, fun _ => 0), .inr (4, [.inr 1, .inr 4, .inr 6, .inr 8]), .inr (5, [.inl 5, .inr 5, .inl 3, .inl 0, .inl 0]), .inl (0, 30, fun _ => 0), .inr (5, [.inl 5, .inr 7, .inl 3, .inl 0, .inl 0]), .inl (0, 30, fun _ => 0), .inr (5, [.inl 5, .inr 9, .inl 3, .inl 0, .inl 0]), .inl (0, 30, fun _ => 0), .inr (1, [.inr 1, .inr 11, .inr 13]), .inr (5, [.inl 5, .inr 12, .inl 3, .inl 0, .inl 0]), .inl (0, 30, fun _ => 0), .inr (5, [.inl 25, .inr 14, .inl 3, .inl 0, .inl 0]), .inl (0, 650, fun _ => 0), .inr (0, [.inr 1, .inr 16, .inr 18, .inr 19]), .inr (6, [.inl 3, .inl 3, .inr 17]), .inl (0, 25, fun _ => 0), .inl (0, 5, fun _ => 0), .inl (0, 5, fun _ => 0), .inr (2, [.inr 21, .inr 22, .inl 0, .inl 0, .inl 0]), .inl (0, 120, fun _ => 0), .inr (6, [.inl 3, .inl 3, .inr 23]), .inl (0, 25, fun _ => 0), .inr (3, [.inl 6, .inr 25]), .inl (0, 162, fun _ => 0)] rfl ?_
  refine wt_c rfl (by omega) ?_
  refine wt_f rfl (by omega) [] (c_min (x := 2) (y := 6) ⟨by omega, by omega⟩ ⟨by omega, by omega⟩ ?_) rfl rfl rfl rfl
  refine wt_n [.inl 2, .inl 1, .inr 26] [.inr (7, [.inr 1, .inr 3, .inr 10, .inr 15, .inr 20, .inr 24, .inr 1001, .inl 0]), .inr (6, [.inl 3, .inl 3, .inr 2]), .inl (0, 25, fun _ => 0), .inr (4, [.inr 1, .inr 4, .inr 6, .inr 8]), .inr (5, [.inl 5, .inr 5, .inl 3, .inl 0, .inl 0]), .inl (0, 30, fun _ => 0), .inr (5, [.inl 5, .inr 7, .inl 3, .inl 0, .inl 0]), .inl (0, 30, fun _ => 0), .inr (5, [.inl 5, .inr 9, .inl 3, .inl 0, .inl 0]), .inl (0, 30, fun _ => 0), .inr (1, [.inr 1, .inr 11, .inr 13]), .inr (5, [.inl 5, .inr 12, .inl 3, .inl 0, .inl 0]), .inl (0, 30, fun _ => 0), .inr (5, [.inl 25, .inr 14, .inl 3, .inl 0, .inl 0]), .inl (0, 650, fun _ => 0), .inr (0, [.inr 1, .inr 16, .inr 18, .inr 19]), .inr (6, [.inl 3, .inl 3, .inr 17]), .inl (0, 25, fun _ => 0), .inl (0, 5, fun _ => 0), .inl (0, 5, fun _ => 0), .inr (2, [.inr 21, .inr 22, .inl 0, .inl 0, .inl 0]), .inl (0, 120, fun _ => 0), .inr (6, [.inl 3, .inl 3, .inr 23]), .inl (0, 25, fun _ => 0), .inr (3, [.inl 6, .inr 25]), .inl (0, 162, fun _ => 0), .inr (3, [.inl 0, .inr 1001])] rfl rfl ?_
  refine wt_f rfl (by omega) [] (c_max (x := 1) (y := 2) ⟨by omega, by omega⟩ ⟨by omega, by omega⟩ ?_) rfl rfl rfl rfl
  refine wt_n [.inl 2, .inr 26] [.inr (7, [.inr 1, .inr 3, .inr 10, .inr 15, .inr 20, .inr 24, .inr 1001, .inl 0]), .inr (6, [.inl 3, .inl 3, .inr 2]), .inl (0, 25, fun _ => 0), .inr (4, [.inr 1, .inr 4, .inr 6, .inr 8]), .inr (5, [.inl 5, .inr 5, .inl 3, .inl 0, .inl 0]), .inl (0, 30, fun _ => 0), .inr (5, [.inl 5, .inr 7, .inl 3, .inl 0, .inl 0]), .inl (0, 30, fun _ => 0), .inr (5, [.inl 5, .inr 9, .inl 3, .inl 0, .inl 0]), .inl (0, 30, fun _ => 0), .inr (1, [.inr 1, .inr 11, .inr 13]), .inr (5, [.inl 5, .inr 12, .inl 3, .inl 0, .inl 0]), .inl (0, 30, fun _ => 0), .inr (5, [.inl 25, .inr 14, .inl 3, .inl 0, .inl 0]), .inl (0, 650, fun _ => 0), .inr (0, [.inr 1, .inr 16, .inr 18, .inr 19]), .inr (6, [.inl 3, .inl 3, .inr 17]), .inl (0, 25, fun _ => 0), .inl (0, 5, fun _ => 0), .inl (0, 5, fun _ => 0), .inr (2, [.inr 21, .inr 22, .inl 0, .inl 0, .inl 0]), .inl (0, 120, fun _ => 0), .inr (6, [.inl 3, .inl 3, .inr 23]), .inl (0, 25, fun _ => 0), .inr (3, [.inl 6, .inr 25]), .inl (0, 162, fun _ => 0), .inr (3, [.inl 0, .inr 1001])] rfl rfl ?_
  refine wt_r rfl (by omega) ⟨Or.inr rfl, ?_⟩
  refine wt_h [.inr (7, [.inr 1, .inr 3, .inr 10, .inr 15, .inr 20, .inr 24, .inr 1001, .inl 0]), .inr (6, [.inl 3, .inl 3, .inr 2]), .inl (0, 25, fun _ => 0), .inr (4, [.inr 1, .inr 4, .inr 6, .inr 8]), .inr (5, [.inl 5, .inr 5, .inl 3, .inl 0, .inl 0]), .inl (0, 30, fun _ => 0), .inr (5, [.inl 5, .inr 7, .inl 3, .inl 0, .inl 0]), .inl (0, 30, fun _ => 0), .inr (5, [.inl 5, .inr 9, .inl 3, .inl 0, .inl 0]), .inl (0, 30, fun _ => 0), .inr (1, [.inr 1, .inr 11, .inr 13]), .inr (5, [.inl 5, .inr 12, .inl 3, .inl 0, .inl 0]), .inl (0, 30, fun _ => 0), .inr (5, [.inl 25, .inr 14, .inl 3, .inl 0, .inl 0]), .inl (0, 650, fun _ => 0), .inr (0, [.inr 1, .inr 16, .inr 18, .inr 19]), .inr (6, [.inl 3, .inl 3, .inr 17]), .inl (0, 25, fun _ => 0), .inl (0, 5, fun _ => 0), .inl (0, 5, fun _ => 0), .inr (2, [.inr 21, .inr 22, .inl 0, .inl 0, .inl 0]), .inl (0, 120, fun _ => 0), .inr (6, [.inl 3, .inl 3, .inr 23]), .inl (0, 25, fun _ => 0), .inr (3, [.inl 6, .inr 25]), .inl (0, 162, fun _ => 0), .inr (3, [.inl 2, .inr 27]), .inl (0, 54, fun _ => 0)] rfl ?_
  refine wt_r rfl (by omega) ⟨Or.inr rfl, ?_⟩
  refine wt_h [.inr (7, [.inr 1, .inr 3, .inr 10, .inr 15, .inr 20, .inr 24, .inr 26, .inl 0]), .inr (6, [.inl 3, .inl 3, .inr 2]), .inl (0, 25, fun _ => 0), .inr (4, [.inr 1, .inr 4, .inr 6, .inr 8]), .inr (5, [.inl 5, .inr 5, .inl 3, .inl 0, .inl 0]), .inl (0, 30, fun _ => 0), .inr (5, [.inl 5, .inr 7, .inl 3, .inl 0, .inl 0]), .inl (0, 30, fun _ => 0), .inr (5, [.inl 5, .inr 9, .inl 3, .inl 0, .inl 0]), .inl (0, 30, fun _ => 0), .inr (1, [.inr 1, .inr 11, .inr 13]), .inr (5, [.inl 5, .inr 12, .inl 3, .inl 0, .inl 0]), .inl (0, 30, fun _ => 0), .inr (5, [.inl 25, .inr 14, .inl 3, .inl 0, .inl 0]), .inl (0, 650, fun _ => 0), .inr (0, [.inr 1, .inr 16, .inr 18, .inr 19]), .inr (6, [.inl 3, .inl 3, .inr 17]), .inl (0, 25, fun _ => 0), .inl (0, 5, fun _ => 0), .inl (0, 5, fun _ => 0), .inr (2, [.inr 21, .inr 22, .inl 0, .inl 0, .inl 0]), .inl (0, 120, fun _ => 0), .inr (6, [.inl 3, .inl 3, .inr 23]), .inl (0, 25, fun _ => 0), .inr (3, [.inl 6, .inr 25]), .inl (0, 162, fun _ => 0), .inr (3, [.inl 2, .inr 27]), .inl (0, 54, fun _ => 0)] rfl ?_
  refine wt_h (wP 0 3 3 3 0 0 3 0 0 3 0 0 3 0 0 3 0 0 3 3 0 0 0 3 3 (fun _ => 0) (fun _ => 0) (fun _ => 0) (fun _ => 0) (fun _ => 0) (fun _ => 0) (fun _ => 0) (fun _ => 0) (fun _ => 0) (fun _ => 0) (fun _ => 0) (fun _ => 0) (fun _ => 0)) rfl ?_
  refine wt_f rfl (by omega) [] (s_cell hX hL ⟨by omega, by omega⟩ (fun y hy => ?_)) rfl rfl rfl rfl
  refine wt_n [.inl y] (wP 0 3 3 3 0 0 3 0 0 3 0 0 3 0 0 3 0 0 3 3 0 0 0 3 3 (fun _ => 0) (fun _ => 0) (fun _ => 0) (fun _ => 0) (fun _ => 0) (fun _ => 0) (fun _ => 0) (fun _ => 0) (fun _ => 0) (fun _ => 0) (fun _ => 0) (fun _ => 0) (fun _ => 0)) rfl rfl ?_
  refine wt_f rfl (by omega) [] (s_low ⟨by omega, by omega⟩ (fun wh w1 w2 => ?_)) rfl rfl rfl rfl
  refine wt_n [.inl wh] (wP 0 3 3 3 0 0 3 0 0 3 0 0 3 0 0 3 0 0 3 3 0 0 0 3 3 (fun _ => 0) (fun _ => 0) (fun _ => 0) (fun _ => 0) (fun _ => 0) (fun _ => 0) (fun _ => 0) (fun _ => 0) (fun _ => 0) (fun _ => 0) (fun _ => 0) (fun _ => 0) (fun _ => 0)) rfl rfl ?_
  refine wt_b rfl (by omega) (fun ee => ?_) (fun ee => ?_)
  · refine wt_b rfl (by omega) (fun ee => ?_) (fun ee => ?_)
    · refine wt_b rfl (by omega) (fun ee => ?_) (fun ee => ?_)
      · refine wt_t 1 rfl (by omega) ?_
        exact w_46 (p := 7) (fs := fun _ => 0) hX hL (by unfold nn_p; omega) rfl hQ
      · refine wt_t 2 rfl (by omega) ?_
        exact w_46 (p := 5) (fs := fun _ => 0) hX hL (by unfold nn_p; omega) rfl hQ
    · refine wt_t 2 rfl (by omega) ?_
      exact w_46 (p := 3) (fs := fun _ => 0) hX hL (by unfold nn_p; omega) rfl hQ
  · refine wt_t 2 rfl (by omega) ?_
    exact w_46 (p := 2) (fs := fun _ => 0) hX hL (by unfold nn_p; omega) rfl hQ
end LAW3
