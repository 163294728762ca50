/-! the worlds; digest and kinds -/
abbrev c_Sc (a b c d e : pj_V) : pj_C := .inr (2, [a, b, c, d, e])
abbrev wP (k p n a1 a2 a3 b1 b2 b3 e1 e2 e3 g1 g2 g3 q1 q2 q3 d1 d2 l sq sg t1 t2 : Int) (br fW f1 f2 fr fq dr nf ng ft dt f fs : Nat → Int) : List pj_C := [c_Li (.inr 1) (.inr 3) (.inr 10) (.inr 15) (.inr 20) (.inr 24) (.inr 26) (.inl k), c_T (.inl p) (.inl n) (.inr 2), c_A 25 br, c_Sp (.inr 1) (.inr 4) (.inr 6) (.inr 8), c_S (.inl 5) (.inr 5) (.inl a1) (.inl a2) (.inl a3), c_A 30 fW, c_S (.inl 5) (.inr 7) (.inl b1) (.inl b2) (.inl b3), c_A 30 f1, c_S (.inl 5) (.inr 9) (.inl e1) (.inl e2) (.inl e3), c_A 30 f2, c_Mp (.inr 1) (.inr 11) (.inr 13), c_S (.inl 5) (.inr 12) (.inl g1) (.inl g2) (.inl g3), c_A 30 fr, c_S (.inl 25) (.inr 14) (.inl q1) (.inl q2) (.inl q3), c_A 650 fq, c_Ch (.inr 1) (.inr 16) (.inr 18) (.inr 19), c_T (.inl d1) (.inl d2) (.inr 17), c_A 25 dr, c_A 5 nf, c_A 5 ng, c_Sc (.inr 21) (.inr 22) (.inl l) (.inl sq) (.inl sg), c_A 120 ft, c_T (.inl t1) (.inl t2) (.inr 23), c_A 25 dt, c_Sh (.inl 6) (.inr 25), c_A 162 f, c_Sh (.inl 2) (.inr 27), c_A 54 fs]
abbrev wG (p n a1 a2 a3 b1 b2 b3 e1 e2 e3 g1 g2 g3 q1 q2 q3 : Int) (br fW f1 f2 fr fq : Nat → Int) : List pj_C := [c_Li (.inr 1) (.inr 3) (.inr 10) v_u v_u v_u v_u v_u, c_T (.inl p) (.inl n) (.inr 2), c_A 25 br, c_Sp (.inr 1) (.inr 4) (.inr 6) (.inr 8), c_S (.inl 5) (.inr 5) (.inl a1) (.inl a2) (.inl a3), c_A 30 fW, c_S (.inl 5) (.inr 7) (.inl b1) (.inl b2) (.inl b3), c_A 30 f1, c_S (.inl 5) (.inr 9) (.inl e1) (.inl e2) (.inl e3), c_A 30 f2, c_Mp (.inr 1) (.inr 11) (.inr 13), c_S (.inl 5) (.inr 12) (.inl g1) (.inl g2) (.inl g3), c_A 30 fr, c_S (.inl 25) (.inr 14) (.inl q1) (.inl q2) (.inl q3), c_A 650 fq]
/-- a step of a digest: 31 times it and a number -/
def zs (c : Nat) (z : Int) : Nat := 2000 + ((2000 + ((2000 + 31) - 2000) * (c - 2000) - 2000) + ((2000 + z.toNat) - 2000))
def zg_j (g : Nat → Int) : Nat → Nat → Nat → Nat
  | 0, _, c => c
  | m + 1, j, c => zg_j g m (j + 1) (zs c (g j))
def zg_i (g : Nat → Nat → Int) (N : Nat) : Nat → Nat → Nat → Nat
  | 0, _, c => c
  | m + 1, i, c => zg_i g N m (i + 1) (zg_j (g i) N 0 c)
def zg (p : Int) (N : Nat) (T : Nat → Nat → Nat → Int) : Nat := zg_i (fun i j => nn_nm p N (T i j)) N N 0 (zs (2000 + p.toNat) (N : Int))
theorem zs_ge (c : Nat) (z : Int) : 2000 ≤ zs c z := by unfold zs; omega
theorem zg_j_ge (g : Nat → Int) : ∀ (m j c : Nat), 2000 ≤ c → 2000 ≤ zg_j g m j c
  | 0, _, _, h => h
  | m + 1, j, c, h => zg_j_ge g m (j + 1) _ (zs_ge c (g j))
theorem zg_i_ge (g : Nat → Nat → Int) (N : Nat) : ∀ (m i c : Nat), 2000 ≤ c → 2000 ≤ zg_i g N m i c
  | 0, _, _, h => h
  | m + 1, i, c, h => zg_i_ge g N m (i + 1) _ (zg_j_ge (g i) N 0 c h)
theorem zg_ge (p : Int) (N : Nat) (T : Nat → Nat → Nat → Int) : 2000 ≤ zg p N T := zg_i_ge _ N N 0 _ (zs_ge _ _)
section DIG
variable {X : pj_X} {Q : pj_Q} {k p n a1 a2 a3 b1 b2 b3 e1 e2 e3 g1 g2 g3 q1 q2 q3 d1 d2 l sq sg t1 t2 : Int} {N : Nat} {T : Nat → Nat → Nat → Int} {br fW f1 f2 fr fq dr nf ng ft dt f fs : Nat → Int}
theorem zb_num (ht : tt_ok p N T) {i j : Nat} (hi : i < N) (hj : j < N) {z : Int} (h : an_br p N T (p ^ i) (p ^ j) z) : z = nn_nm p N (T i j) ∧ 0 ≤ z ∧ z ≤ 2147483647 := by
  obtain ⟨hp, h1N, hN, hT, -⟩ := id ht
  have hp1 := (nn_p_pos hp).1
  have pw : ∀ q, q < N → 0 ≤ p ^ q ∧ p ^ q < p ^ N := fun q hq => by
    have h1 := nn_pw1 hp1 q
    obtain ⟨m, hm⟩ := Nat.le.dest (show q + 1 ≤ N by omega)
    have h2 := nn_pw1 hp1 m
    rw [← hm, Int.pow_add, Int.pow_succ]
    have h3 : p ^ q * 2 ≤ p ^ q * p := Int.mul_le_mul_of_nonneg_left (by have := (nn_p_pos hp).2.1; omega) (by omega)
    have h4 : p ^ q * p * 1 ≤ p ^ q * p * p ^ m := Int.mul_le_mul_of_nonneg_left h2 (by omega)
    omega
  have h2 := fb_val (pw i hi) (pw j hj) h
  have h3 : z = nn_nm p N (T i j) := by
    rw [h2]
    refine nn_nm_congr N (fun c hc => ?_)
    refine nn_eq_red (nn_eq_trans (tt_bk_congr (ln_eq_pw hp i) (ln_eq_pw hp j) c) (nn_eq_symm (zj_T ht hi hj c hc))) (tt_bk_rg hp1 _ _ _) (hT i j c)
  have h4 := fb_rg (N := N) (T := T) hp (nn_dg p (p ^ i)) (nn_dg p (p ^ j))
  have h5 := nn_pwle hp N hN
  exact ⟨h3, by omega, by omega⟩
theorem g_dig_j (ht : tt_ok p N T) (hb : tt_br p N T br) (hn : n = N) {i : Nat} (hi : i < N) {zi : Int} (hzi : zi = i) : ∀ (m j c : Nat) (zj : pj_V) (z : Int), j + m = N → zj = .inl z → z = j → 2000 ≤ c → (∀ zj : Int, pj_WT X m_Lw_digest 75 [.inr 0, .inr (zg_j (fun j => nn_nm p N (T i j)) m j c), .inr 1000, .inl p, .inl zi, .inl zj] [] (wP k p n a1 a2 a3 b1 b2 b3 e1 e2 e3 g1 g2 g3 q1 q2 q3 d1 d2 l sq sg t1 t2 br fW f1 f2 fr fq dr nf ng ft dt f fs) Q) → pj_WT X m_Lw_digest 36 [.inr 0, .inr c, .inr 1000, .inl p, .inl zi, .inl z] [] (wP k p n a1 a2 a3 b1 b2 b3 e1 e2 e3 g1 g2 g3 q1 q2 q3 d1 d2 l sq sg t1 t2 br fW f1 f2 fr fq dr nf ng ft dt f fs) Q := by
  obtain ⟨hp, h1N, hN, hT, -⟩ := id ht
  obtain ⟨hp1, hp2, hp3⟩ := nn_p_pos hp
  intro m
  induction m with
  | zero =>
    intro j c zj z hj _ hz hc hk
    refine wt_f rfl (by omega) [0, 1, 2] (c_dimension ?_) rfl rfl rfl rfl
    refine wt_n [.inl n, .inl z] (wP k p n a1 a2 a3 b1 b2 b3 e1 e2 e3 g1 g2 g3 q1 q2 q3 d1 d2 l sq sg t1 t2 br fW f1 f2 fr fq dr nf ng ft dt f fs) rfl rfl ?_
    refine wt_b rfl (by omega) (fun e => ?_) (fun e => absurd e (by omega))
    exact hk _
  | succ m ih =>
    intro j c zj z hj _ hz hc hk
    refine wt_f rfl (by omega) [0, 1, 2] (c_dimension ?_) rfl rfl rfl rfl
    refine wt_n [.inl n, .inl z] (wP k p n a1 a2 a3 b1 b2 b3 e1 e2 e3 g1 g2 g3 q1 q2 q3 d1 d2 l sq sg t1 t2 br fW f1 f2 fr fq dr nf ng ft dt f fs) rfl rfl ?_
    refine wt_b rfl (by omega) (fun e => absurd e (by omega)) (fun e => ?_)
    refine wt_f rfl (by omega) [] (s_power (E := i) (by omega) hzi ?_) rfl rfl rfl rfl
    refine wt_n [.inl (p ^ i), .inr 0, .inr (2000 + (2000 + 31 - 2000) * (c - 2000))] (wP k p n a1 a2 a3 b1 b2 b3 e1 e2 e3 g1 g2 g3 q1 q2 q3 d1 d2 l sq sg t1 t2 br fW f1 f2 fr fq dr nf ng ft dt f fs) rfl rfl ?_
    refine wt_f rfl (by omega) [] (s_power (E := j) (by omega) hz ?_) rfl rfl rfl rfl
    refine wt_n [.inl (p ^ j), .inl (p ^ i), .inr 0, .inr (2000 + (2000 + 31 - 2000) * (c - 2000))] (wP k p n a1 a2 a3 b1 b2 b3 e1 e2 e3 g1 g2 g3 q1 q2 q3 d1 d2 l sq sg t1 t2 br fW f1 f2 fr fq dr nf ng ft dt f fs) rfl rfl ?_
    have w1 := nn_pwle hp i (by omega)
    have w2 := nn_pwle hp j (by omega)
    have w3 := nn_pw1 hp1 i
    have w4 := nn_pw1 hp1 j
    refine wt_f rfl (by omega) [0, 1, 2] (l_bracket ht hb hn ⟨by omega, by omega⟩ ⟨by omega, by omega⟩ (fun y hy => ?_)) rfl rfl rfl rfl
    obtain ⟨y1, y2, y3⟩ := zb_num ht hi (show j < N by omega) hy
    refine wt_n [.inl y, .inr (2000 + (2000 + 31 - 2000) * (c - 2000))] (wP k p n a1 a2 a3 b1 b2 b3 e1 e2 e3 g1 g2 g3 q1 q2 q3 d1 d2 l sq sg t1 t2 br fW f1 f2 fr fq dr nf ng ft dt f fs) rfl rfl ?_
    refine wt_g rfl (by omega) ?_
    refine ih (j + 1) _ (.inl (z + 1)) _ (by omega) rfl (by omega) (zs_ge c y) (fun zj => ?_)
    have e : zg_j (fun j => nn_nm p N (T i j)) m (j + 1) (zs c y) = zg_j (fun j => nn_nm p N (T i j)) (m + 1) j c := by
      show _ = zg_j (fun j => nn_nm p N (T i j)) m (j + 1) (zs c (nn_nm p N (T i j)))
      rw [y1]
    have h9 := hk zj
    rw [← e] at h9
    exact h9
theorem g_dig_i (ht : tt_ok p N T) (hb : tt_br p N T br) (hn : n = N) (hQ : ∀ C : Nat, C = zg p N T → 2000 ≤ C → Q (some (.inr C)) (wP k p n a1 a2 a3 b1 b2 b3 e1 e2 e3 g1 g2 g3 q1 q2 q3 d1 d2 l sq sg t1 t2 br fW f1 f2 fr fq dr nf ng ft dt f fs)) : ∀ (m i c : Nat) (z : Int) (zj : pj_V), i + m = N → z = i → 2000 ≤ c → zg_i (fun i j => nn_nm p N (T i j)) N m i c = zg p N T → pj_WT X m_Lw_digest 24 [.inr 0, .inr c, .inr 1000, .inl p, .inl z, zj] [] (wP k p n a1 a2 a3 b1 b2 b3 e1 e2 e3 g1 g2 g3 q1 q2 q3 d1 d2 l sq sg t1 t2 br fW f1 f2 fr fq dr nf ng ft dt f fs) Q := by
  obtain ⟨hp, h1N, hN, hT, -⟩ := id ht
  intro m
  induction m with
  | zero =>
    intro i c z zj hi hz hc hC
    refine wt_f rfl (by omega) [0, 1, 2] (c_dimension ?_) rfl rfl rfl rfl
    refine wt_n [.inl n, .inl z] (wP k p n a1 a2 a3 b1 b2 b3 e1 e2 e3 g1 g2 g3 q1 q2 q3 d1 d2 l sq sg t1 t2 br fW f1 f2 fr fq dr nf ng ft dt f fs) rfl rfl ?_
    refine wt_b rfl (by omega) (fun e => ?_) (fun e => absurd e (by omega))
    exact wt_r rfl (by omega) (hQ c hC hc)
  | succ m ih =>
    intro i c z zj hi hz hc hC
    refine wt_f rfl (by omega) [0, 1, 2] (c_dimension ?_) rfl rfl rfl rfl
    refine wt_n [.inl n, .inl z] (wP k p n a1 a2 a3 b1 b2 b3 e1 e2 e3 g1 g2 g3 q1 q2 q3 d1 d2 l sq sg t1 t2 br fW f1 f2 fr fq dr nf ng ft dt f fs) rfl rfl ?_
    refine wt_b rfl (by omega) (fun e => absurd e (by omega)) (fun e => ?_)
    refine wt_g rfl (by omega) ?_
    refine g_dig_j ht hb hn (show i < N by omega) hz N 0 c (.inl 0) 0 (by omega) rfl (by omega) hc (fun zj => ?_)
    refine wt_g rfl (by omega) ?_
    exact ih (i + 1) _ _ _ (by omega) (by omega) (zg_j_ge _ N 0 c hc) hC
/-- digest(o) -/
theorem g_digest (ht : tt_ok p N T) (hb : tt_br p N T br) (hn : n = N) (hQ : ∀ C : Nat, C = zg p N T → 2000 ≤ C → Q (some (.inr C)) (wP k p n a1 a2 a3 b1 b2 b3 e1 e2 e3 g1 g2 g3 q1 q2 q3 d1 d2 l sq sg t1 t2 br fW f1 f2 fr fq dr nf ng ft dt f fs)) : pj_WT X m_Lw_digest 0 ([.inr 0] ++ pj_rep (k_nL m_Lw_digest - 1)) [] (wP k p n a1 a2 a3 b1 b2 b3 e1 e2 e3 g1 g2 g3 q1 q2 q3 d1 d2 l sq sg t1 t2 br fW f1 f2 fr fq dr nf ng ft dt f fs) Q := by
  obtain ⟨hp, h1N, hN, hT, -⟩ := id ht
  obtain ⟨hp1, hp2, hp3⟩ := nn_p_pos hp
  refine wt_f rfl (by omega) [0, 1, 2] (c_prime ?_) rfl rfl rfl rfl
  refine wt_n [.inl p, .inr (2000 + 31)] (wP k p n a1 a2 a3 b1 b2 b3 e1 e2 e3 g1 g2 g3 q1 q2 q3 d1 d2 l sq sg t1 t2 br fW f1 f2 fr fq dr nf ng ft dt f fs) rfl rfl ?_
  refine wt_f rfl (by omega) [0, 1, 2] (c_dimension ?_) rfl rfl rfl rfl
  refine wt_n [.inl n, .inr (2000 + (2000 + 31 - 2000) * (2000 + p.toNat - 2000))] (wP k p n a1 a2 a3 b1 b2 b3 e1 e2 e3 g1 g2 g3 q1 q2 q3 d1 d2 l sq sg t1 t2 br fW f1 f2 fr fq dr nf ng ft dt f fs) rfl rfl ?_
  refine wt_f rfl (by omega) [0, 1, 2] (c_prime ?_) rfl rfl rfl rfl
  refine wt_n [.inl p] (wP k p n a1 a2 a3 b1 b2 b3 e1 e2 e3 g1 g2 g3 q1 q2 q3 d1 d2 l sq sg t1 t2 br fW f1 f2 fr fq dr nf ng ft dt f fs) rfl rfl ?_
  refine wt_g rfl (by omega) ?_
  refine g_dig_i ht hb hn hQ N 0 _ _ _ (by omega) (by omega) (zs_ge (2000 + p.toNat) n) ?_
  rw [hn]
  rfl
end DIG
