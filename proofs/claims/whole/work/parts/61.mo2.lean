/-! THE MODEL: bracketOf, setPair, leadOf, clear, makeWhole -/
section MO2
variable {X : pj_X} {Q : pj_Q} {p : Int} {N : Nat} {T : Nat → Nat → Nat → Int} {s : Nat → Int}
/-- the bracket's coordinate k before mod, from the first I rows -/
def mb_r (N : Nat) (T : Nat → Nat → Nat → Int) (u v : Nat → Int) (k i J : Nat) : Int := nn_sm J (fun j => u i * v j * T i j k)
def mb_s (N : Nat) (T : Nat → Nat → Nat → Int) (u v : Nat → Int) (k I : Nat) : Int := nn_sm I (fun i => mb_r N T u v k i N)
theorem mb_rg (hp : nn_p p) {a b c : Int} (ha : 0 ≤ a ∧ a < p) (hb : 0 ≤ b ∧ b < p) (hc : 0 ≤ c ∧ c < p) : 0 ≤ a * b * c ∧ a * b * c ≤ 216 := by
  have h1 := nn_f7 hp ha hb
  have := (nn_p_pos hp).2.2
  refine ⟨Int.mul_nonneg h1.1 hc.1, ?_⟩
  have h2 : a * b * c ≤ 36 * c := Int.mul_le_mul_of_nonneg_right h1.2 hc.1
  omega
theorem mb_s_rg (ht : tt_ok p N T) {u v : Nat → Int} (hu : ∀ i, i < N → 0 ≤ u i ∧ u i < p) (hv : ∀ i, i < N → 0 ≤ v i ∧ v i < p) (k : Nat) : 0 ≤ mb_s N T u v k N ∧ mb_s N T u v k N ≤ 5400 := by
  obtain ⟨hp, h1N, hN, hT, -⟩ := id ht
  have h1 : ∀ i, i < N → 0 ≤ mb_r N T u v k i N ∧ mb_r N T u v k i N ≤ 1080 := fun i hi => by
    have h := nn_sm_rg (B := 216) N (f := fun j => u i * v j * T i j k) (fun j hj => mb_rg hp (hu i hi) (hv j hj) (hT i j k))
    have e : nn_sm N (fun j => u i * v j * T i j k) = mb_r N T u v k i N := rfl
    rw [e] at h
    omega
  have h := nn_sm_rg (B := 1080) N (f := fun i => mb_r N T u v k i N) h1
  have e : nn_sm N (fun i => mb_r N T u v k i N) = mb_s N T u v k N := rfl
  rw [e] at h
  omega
theorem d_br_in {lu lv : Nat} {gu gv : Nat → Int} (hlu : lu ≤ 100000) (hlv : lv ≤ 100000) {FU FV : Nat} {fu fv : Int} (ht : tt_ok p N T) (hs : st_m p N T s) (hfu : fu = FU) (hfv : fv = FV) (hU : FU + N ≤ lu) (hV : FV + N ≤ lv) {r : Nat → Int} {K I : Nat} {k i sm : Int} (hk : k = K) (hK : K < 5) (hi : i = I) (hI : I < N)
    (hQ : ∀ d : pj_V, pj_WP X m_Mo_bracketOf 81 [.inr 0, .inr 3, .inl fu, .inr 4, .inl fv, .inl k, .inl (sm + mb_r N T (fun i => gu (FU + i)) (fun i => gv (FV + i)) K I N), .inl i, d] [] [o_b, c_A 127 s, c_A 5 r, c_A lu gu, c_A lv gv] Q) :
    ∀ (m J : Nat) (x j : Int), J + m = N → j = J → x = sm + mb_r N T (fun i => gu (FU + i)) (fun i => gv (FV + i)) K I J → pj_WP X m_Mo_bracketOf 29 [.inr 0, .inr 3, .inl fu, .inr 4, .inl fv, .inl k, .inl x, .inl i, .inl j] [] [o_b, c_A 127 s, c_A 5 r, c_A lu gu, c_A lv gv] Q := by
  obtain ⟨hp, h1N, hN, hT, -⟩ := id ht
  obtain ⟨h0, h1, h2⟩ := id hs
  have h1' : s (Int.toNat 1) = (N : Int) := h1
  intro m
  induction m with
  | zero =>
    intro J x j hJ hj hx
    refine wp_b rfl (by omega) (fun c => ?_) (fun c => absurd c (by omega))
    rw [hx, show J = N by omega]
    exact hQ _
  | succ m ih =>
    intro J x j hJ hj hx
    refine wp_b rfl (by omega) (fun c => absurd c (by omega)) (fun c => ?_)
    refine wp_c rfl (by omega) [] (d_at ?_) rfl rfl rfl rfl
    refine wp_h [o_b, c_A 127 s, c_A 5 r, c_A lu gu, c_A lv gv] rfl ?_
    refine wp_g rfl (by omega) ?_
    refine ih (J + 1) _ _ (by omega) (by omega) ?_
    have e1 : (fu + i).toNat = FU + I := by omega
    have e2 : (fv + j).toNat = FV + J := by omega
    have e3 : (2 + 5 * (5 * i + j) + k).toNat = 2 + 5 * (5 * I + J) + K := by omega
    rw [e1, e2, e3, h2 I J K (by omega) (by omega) hK, hx, Int.add_assoc]
    rfl
theorem d_br_mid {lu lv : Nat} {gu gv : Nat → Int} (hlu : lu ≤ 100000) (hlv : lv ≤ 100000) {FU FV : Nat} {fu fv : Int} (ht : tt_ok p N T) (hs : st_m p N T s) (hfu : fu = FU) (hfv : fv = FV) (hU : FU + N ≤ lu) (hV : FV + N ≤ lv) {r : Nat → Int} {K : Nat} {k : Int} (hk : k = K) (hK : K < 5)
    (hQ : ∀ d1 d2 : pj_V, pj_WP X m_Mo_bracketOf 87 [.inr 0, .inr 3, .inl fu, .inr 4, .inl fv, .inl k, .inl (mb_s N T (fun i => gu (FU + i)) (fun i => gv (FV + i)) K N), d1, d2] [] [o_b, c_A 127 s, c_A 5 r, c_A lu gu, c_A lv gv] Q) :
    ∀ (m I : Nat) (x i : Int) (d : pj_V), I + m = N → i = I → x = mb_s N T (fun i => gu (FU + i)) (fun i => gv (FV + i)) K I → pj_WP X m_Mo_bracketOf 15 [.inr 0, .inr 3, .inl fu, .inr 4, .inl fv, .inl k, .inl x, .inl i, d] [] [o_b, c_A 127 s, c_A 5 r, c_A lu gu, c_A lv gv] Q := by
  obtain ⟨hp, h1N, hN, hT, -⟩ := id ht
  obtain ⟨h0, h1, h2⟩ := id hs
  have h1' : s (Int.toNat 1) = (N : Int) := h1
  intro m
  induction m with
  | zero =>
    intro I x i d hI hi hx
    refine wp_b rfl (by omega) (fun c => ?_) (fun c => absurd c (by omega))
    rw [hx, show I = N by omega]
    exact hQ _ _
  | succ m ih =>
    intro I x i d hI hi hx
    refine wp_b rfl (by omega) (fun c => absurd c (by omega)) (fun c => ?_)
    refine wp_g rfl (by omega) ?_
    refine d_br_in hlu hlv ht hs hfu hfv hU hV (sm := x) hk hK hi (by omega) (fun d => ?_) N 0 _ _ (by omega) (by omega) (by show x = x + 0; omega)
    refine wp_g rfl (by omega) ?_
    exact ih (I + 1) _ _ _ (by omega) (by omega) (by rw [hx]; rfl)
theorem d_br_out {lu lv : Nat} {gu gv : Nat → Int} (hlu : lu ≤ 100000) (hlv : lv ≤ 100000) {FU FV : Nat} {fu fv : Int} (ht : tt_ok p N T) (hs : st_m p N T s) (hfu : fu = FU) (hfv : fv = FV) (hU : FU + N ≤ lu) (hV : FV + N ≤ lv) (hu : ∀ i, i < N → 0 ≤ gu (FU + i) ∧ gu (FU + i) < p) (hv : ∀ i, i < N → 0 ≤ gv (FV + i) ∧ gv (FV + i) < p) {r0 : Nat → Int}
    (hQ : Q none [o_b, c_A 127 s, c_A 5 (fun k => if k < 5 then tt_bk p N T (fun i => gu (FU + i)) (fun i => gv (FV + i)) k else r0 k), c_A lu gu, c_A lv gv]) :
    ∀ (m K : Nat) (r : Nat → Int) (k : Int) (d1 d2 d3 : pj_V), K + m = 5 → k = K → (∀ q, r q = if q < K then tt_bk p N T (fun i => gu (FU + i)) (fun i => gv (FV + i)) q else r0 q) → pj_WP X m_Mo_bracketOf 3 [.inr 0, .inr 3, .inl fu, .inr 4, .inl fv, .inl k, d1, d2, d3] [] [o_b, c_A 127 s, c_A 5 r, c_A lu gu, c_A lv gv] Q := by
  obtain ⟨hp, h1N, hN, hT, -⟩ := id ht
  obtain ⟨h0, h1, h2⟩ := id hs
  intro m
  induction m with
  | zero =>
    intro K r k d1 d2 d3 hK hk hr
    refine wp_b rfl (by omega) (fun c => ?_) (fun c => absurd c (by omega))
    refine wp_r rfl (by omega) ?_
    rw [show r = fun k => if k < 5 then tt_bk p N T (fun i => gu (FU + i)) (fun i => gv (FV + i)) k else r0 k from funext fun q => by rw [hr q, show K = 5 by omega]]
    exact hQ
  | succ m ih =>
    intro K r k d1 d2 d3 hK hk hr
    have hb := mb_s_rg ht hu hv K
    refine wp_b rfl (by omega) (fun c => absurd c (by omega)) (fun c => ?_)
    refine wp_g rfl (by omega) ?_
    refine d_br_mid hlu hlv ht hs hfu hfv hU hV hk (by omega) (fun e1 e2 => ?_) N 0 _ _ _ (by omega) (by omega) rfl
    refine wp_c rfl (by omega) [0, 1] (d_mod hp h0 (by unfold pj_rg; omega) ?_) rfl rfl rfl rfl
    refine wp_h [o_b, c_A 127 s, c_A 5 r, c_A lu gu, c_A lv gv] rfl ?_
    refine wp_g rfl (by omega) ?_
    refine ih (K + 1) _ _ _ _ _ (by omega) (by omega) (fun q => ?_)
    unfold pj_up
    rw [show k.toNat = K by omega]
    by_cases h : q = K
    · subst h
      rw [if_pos rfl, if_pos (by omega)]
      rfl
    · rw [if_neg h, hr q]
      by_cases h2 : q < K
      · rw [if_pos h2, if_pos (by omega)]
      · rw [if_neg h2, if_neg (by omega)]
/-- bracketOf(u, fromU, v, fromV) -/
theorem d_br {lu lv : Nat} {gu gv : Nat → Int} (hlu : lu ≤ 100000) (hlv : lv ≤ 100000) {FU FV : Nat} {fu fv : Int} (ht : tt_ok p N T) (hs : st_m p N T s) (hfu : fu = FU) (hfv : fv = FV) (hU : FU + N ≤ lu) (hV : FV + N ≤ lv) (hu : ∀ i, i < N → 0 ≤ gu (FU + i) ∧ gu (FU + i) < p) (hv : ∀ i, i < N → 0 ≤ gv (FV + i) ∧ gv (FV + i) < p) {r0 : Nat → Int}
    (hQ : Q none [o_b, c_A 127 s, c_A 5 (fun k => if k < 5 then tt_bk p N T (fun i => gu (FU + i)) (fun i => gv (FV + i)) k else r0 k), c_A lu gu, c_A lv gv]) : pj_ci X m_Mo_bracketOf [.inr 0, .inr 3, .inl fu, .inr 4, .inl fv] [o_b, c_A 127 s, c_A 5 r0, c_A lu gu, c_A lv gv] Q := by
  refine wp_g rfl (by omega) ?_
  exact d_br_out hlu hlv ht hs hfu hfv hU hV hu hv hQ 5 0 _ _ _ _ _ (by omega) (by omega) (fun q => by rw [if_neg (by omega)])
theorem d_brS_in {lu : Nat} {gu : Nat → Int} (hlu : lu ≤ 100000) {FU FV : Nat} {fu fv : Int} (ht : tt_ok p N T) (hs : st_m p N T s) (hfu : fu = FU) (hfv : fv = FV) (hU : FU + N ≤ lu) (hV : FV + N ≤ lu) {r : Nat → Int} {K I : Nat} {k i sm : Int} (hk : k = K) (hK : K < 5) (hi : i = I) (hI : I < N)
    (hQ : ∀ d : pj_V, pj_WP X m_Mo_bracketOf 81 [.inr 0, .inr 3, .inl fu, .inr 3, .inl fv, .inl k, .inl (sm + mb_r N T (fun i => gu (FU + i)) (fun i => gu (FV + i)) K I N), .inl i, d] [] [o_b, c_A 127 s, c_A 5 r, c_A lu gu] Q) :
    ∀ (m J : Nat) (x j : Int), J + m = N → j = J → x = sm + mb_r N T (fun i => gu (FU + i)) (fun i => gu (FV + i)) K I J → pj_WP X m_Mo_bracketOf 29 [.inr 0, .inr 3, .inl fu, .inr 3, .inl fv, .inl k, .inl x, .inl i, .inl j] [] [o_b, c_A 127 s, c_A 5 r, c_A lu gu] Q := by
  obtain ⟨hp, h1N, hN, hT, -⟩ := id ht
  obtain ⟨h0, h1, h2⟩ := id hs
  have h1' : s (Int.toNat 1) = (N : Int) := h1
  intro m
  induction m with
  | zero =>
    intro J x j hJ hj hx
    refine wp_b rfl (by omega) (fun c => ?_) (fun c => absurd c (by omega))
    rw [hx, show J = N by omega]
    exact hQ _
  | succ m ih =>
    intro J x j hJ hj hx
    refine wp_b rfl (by omega) (fun c => absurd c (by omega)) (fun c => ?_)
    refine wp_c rfl (by omega) [] (d_at ?_) rfl rfl rfl rfl
    refine wp_h [o_b, c_A 127 s, c_A 5 r, c_A lu gu] rfl ?_
    refine wp_g rfl (by omega) ?_
    refine ih (J + 1) _ _ (by omega) (by omega) ?_
    have e1 : (fu + i).toNat = FU + I := by omega
    have e2 : (fv + j).toNat = FV + J := by omega
    have e3 : (2 + 5 * (5 * i + j) + k).toNat = 2 + 5 * (5 * I + J) + K := by omega
    rw [e1, e2, e3, h2 I J K (by omega) (by omega) hK, hx, Int.add_assoc]
    rfl
theorem d_brS_mid {lu : Nat} {gu : Nat → Int} (hlu : lu ≤ 100000) {FU FV : Nat} {fu fv : Int} (ht : tt_ok p N T) (hs : st_m p N T s) (hfu : fu = FU) (hfv : fv = FV) (hU : FU + N ≤ lu) (hV : FV + N ≤ lu) {r : Nat → Int} {K : Nat} {k : Int} (hk : k = K) (hK : K < 5)
    (hQ : ∀ d1 d2 : pj_V, pj_WP X m_Mo_bracketOf 87 [.inr 0, .inr 3, .inl fu, .inr 3, .inl fv, .inl k, .inl (mb_s N T (fun i => gu (FU + i)) (fun i => gu (FV + i)) K N), d1, d2] [] [o_b, c_A 127 s, c_A 5 r, c_A lu gu] Q) :
    ∀ (m I : Nat) (x i : Int) (d : pj_V), I + m = N → i = I → x = mb_s N T (fun i => gu (FU + i)) (fun i => gu (FV + i)) K I → pj_WP X m_Mo_bracketOf 15 [.inr 0, .inr 3, .inl fu, .inr 3, .inl fv, .inl k, .inl x, .inl i, d] [] [o_b, c_A 127 s, c_A 5 r, c_A lu gu] Q := by
  obtain ⟨hp, h1N, hN, hT, -⟩ := id ht
  obtain ⟨h0, h1, h2⟩ := id hs
  have h1' : s (Int.toNat 1) = (N : Int) := h1
  intro m
  induction m with
  | zero =>
    intro I x i d hI hi hx
    refine wp_b rfl (by omega) (fun c => ?_) (fun c => absurd c (by omega))
    rw [hx, show I = N by omega]
    exact hQ _ _
  | succ m ih =>
    intro I x i d hI hi hx
    refine wp_b rfl (by omega) (fun c => absurd c (by omega)) (fun c => ?_)
    refine wp_g rfl (by omega) ?_
    refine d_brS_in hlu ht hs hfu hfv hU hV (sm := x) hk hK hi (by omega) (fun d => ?_) N 0 _ _ (by omega) (by omega) (by show x = x + 0; omega)
    refine wp_g rfl (by omega) ?_
    exact ih (I + 1) _ _ _ (by omega) (by omega) (by rw [hx]; rfl)
theorem d_brS_out {lu : Nat} {gu : Nat → Int} (hlu : lu ≤ 100000) {FU FV : Nat} {fu fv : Int} (ht : tt_ok p N T) (hs : st_m p N T s) (hfu : fu = FU) (hfv : fv = FV) (hU : FU + N ≤ lu) (hV : FV + N ≤ lu) (hu : ∀ i, i < N → 0 ≤ gu (FU + i) ∧ gu (FU + i) < p) (hv : ∀ i, i < N → 0 ≤ gu (FV + i) ∧ gu (FV + i) < p) {r0 : Nat → Int}
    (hQ : Q none [o_b, c_A 127 s, c_A 5 (fun k => if k < 5 then tt_bk p N T (fun i => gu (FU + i)) (fun i => gu (FV + i)) k else r0 k), c_A lu gu]) :
    ∀ (m K : Nat) (r : Nat → Int) (k : Int) (d1 d2 d3 : pj_V), K + m = 5 → k = K → (∀ q, r q = if q < K then tt_bk p N T (fun i => gu (FU + i)) (fun i => gu (FV + i)) q else r0 q) → pj_WP X m_Mo_bracketOf 3 [.inr 0, .inr 3, .inl fu, .inr 3, .inl fv, .inl k, d1, d2, d3] [] [o_b, c_A 127 s, c_A 5 r, c_A lu gu] Q := by
  obtain ⟨hp, h1N, hN, hT, -⟩ := id ht
  obtain ⟨h0, h1, h2⟩ := id hs
  intro m
  induction m with
  | zero =>
    intro K r k d1 d2 d3 hK hk hr
    refine wp_b rfl (by omega) (fun c => ?_) (fun c => absurd c (by omega))
    refine wp_r rfl (by omega) ?_
    rw [show r = fun k => if k < 5 then tt_bk p N T (fun i => gu (FU + i)) (fun i => gu (FV + i)) k else r0 k from funext fun q => by rw [hr q, show K = 5 by omega]]
    exact hQ
  | succ m ih =>
    intro K r k d1 d2 d3 hK hk hr
    have hb := mb_s_rg ht hu hv K
    refine wp_b rfl (by omega) (fun c => absurd c (by omega)) (fun c => ?_)
    refine wp_g rfl (by omega) ?_
    refine d_brS_mid hlu ht hs hfu hfv hU hV hk (by omega) (fun e1 e2 => ?_) N 0 _ _ _ (by omega) (by omega) rfl
    refine wp_c rfl (by omega) [0, 1] (d_mod hp h0 (by unfold pj_rg; omega) ?_) rfl rfl rfl rfl
    refine wp_h [o_b, c_A 127 s, c_A 5 r, c_A lu gu] rfl ?_
    refine wp_g rfl (by omega) ?_
    refine ih (K + 1) _ _ _ _ _ (by omega) (by omega) (fun q => ?_)
    unfold pj_up
    rw [show k.toNat = K by omega]
    by_cases h : q = K
    · subst h
      rw [if_pos rfl, if_pos (by omega)]
      rfl
    · rw [if_neg h, hr q]
      by_cases h2 : q < K
      · rw [if_pos h2, if_pos (by omega)]
      · rw [if_neg h2, if_neg (by omega)]
/-- bracketOf(u, fromU, v, fromV): one row -/
theorem d_brS {lu : Nat} {gu : Nat → Int} (hlu : lu ≤ 100000) {FU FV : Nat} {fu fv : Int} (ht : tt_ok p N T) (hs : st_m p N T s) (hfu : fu = FU) (hfv : fv = FV) (hU : FU + N ≤ lu) (hV : FV + N ≤ lu) (hu : ∀ i, i < N → 0 ≤ gu (FU + i) ∧ gu (FU + i) < p) (hv : ∀ i, i < N → 0 ≤ gu (FV + i) ∧ gu (FV + i) < p) {r0 : Nat → Int}
    (hQ : Q none [o_b, c_A 127 s, c_A 5 (fun k => if k < 5 then tt_bk p N T (fun i => gu (FU + i)) (fun i => gu (FV + i)) k else r0 k), c_A lu gu]) : pj_ci X m_Mo_bracketOf [.inr 0, .inr 3, .inl fu, .inr 3, .inl fv] [o_b, c_A 127 s, c_A 5 r0, c_A lu gu] Q := by
  refine wp_g rfl (by omega) ?_
  exact d_brS_out hlu ht hs hfu hfv hU hV hu hv hQ 5 0 _ _ _ _ _ (by omega) (by omega) (fun q => by rw [if_neg (by omega)])
/-- the table with a pair set -/
def tt_set (p : Int) (T : Nat → Nat → Nat → Int) (I J : Nat) (x : Nat → Int) (i j k : Nat) : Int := if i = I ∧ j = J then x k else if i = J ∧ j = I then (-(x k)) % p else T i j k
theorem d_setPair_loop {len F I J : Nat} {f i j : Int} {g : Nat → Int} (hlen : len ≤ 100000) (hp : nn_p p) (hs : st_m p N T s) (hf : f = F) (hF : F + 5 ≤ len) (hi : i = I) (hj : j = J) (hI : I < 5) (hJ : J < 5) (hne : I ≠ J) (hg : ∀ k, k < 5 → 0 ≤ g (F + k) ∧ g (F + k) < p)
    (hQ : ∀ s', st_m p N (tt_set p T I J (fun k => g (F + k))) s' → Q none [o_s, c_A 127 s', c_A len g]) :
    ∀ (m K : Nat) (s' : Nat → Int) (k : Int), K + m = 5 → k = K → s' 0 = p → s' 1 = (N : Int) → (∀ a b c, a < 5 → b < 5 → c < 5 → s' (2 + 5 * (5 * a + b) + c) = if c < K then tt_set p T I J (fun k => g (F + k)) a b c else T a b c) → pj_WP X m_Mo_setPair 3 [.inr 0, .inl i, .inl j, .inr 2, .inl f, .inl k] [] [o_s, c_A 127 s', c_A len g] Q := by
  obtain ⟨hp1, hp2, hp3⟩ := nn_p_pos hp
  intro m
  induction m with
  | zero =>
    intro K s' k hK hk h0 h1 h2
    refine wp_b rfl (by omega) (fun c => ?_) (fun c => absurd c (by omega))
    refine wp_r rfl (by omega) (hQ s' ⟨h0, h1, fun a b c ha hb hc => ?_⟩)
    rw [h2 a b c ha hb hc, if_pos (by omega)]
  | succ m ih =>
    intro K s' k hK hk h0 h1 h2
    have hgk := hg K (by omega)
    have e1 : (f + k).toNat = F + K := by omega
    have e2 : (2 + 5 * (5 * i + j) + k).toNat = 2 + 5 * (5 * I + J) + K := by omega
    have e3 : (2 + 5 * (5 * j + i) + k).toNat = 2 + 5 * (5 * J + I) + K := by omega
    refine wp_b rfl (by omega) (fun c => absurd c (by omega)) (fun c => ?_)
    refine wp_c rfl (by omega) [] (d_at ?_) rfl rfl rfl rfl
    refine wp_h [o_s, c_A 127 s', c_A len g] rfl ?_
    refine wp_c rfl (by omega) [] (d_at ?_) rfl rfl rfl rfl
    refine wp_h [o_s, c_A 127 (pj_up s' (2 + 5 * (5 * i + j) + k).toNat (g (f + k).toNat)), c_A len g] rfl ?_
    rw [e1, e2]
    refine wp_c rfl (by omega) [0, 1] (d_mod hp (show pj_up s' (2 + 5 * (5 * I + J) + K) (g (F + K)) 0 = p by unfold pj_up; rw [if_neg (by omega)]; exact h0) (by rw [e1]; unfold pj_rg; omega) ?_) rfl rfl rfl rfl
    rw [e1]
    refine wp_h [o_s, c_A 127 (pj_up s' (2 + 5 * (5 * I + J) + K) (g (F + K))), c_A len g] rfl ?_
    refine wp_g rfl (by omega) ?_
    rw [e3]
    refine ih (K + 1) _ _ (by omega) (by omega) (by unfold pj_up; rw [if_neg (by omega), if_neg (by omega)]; exact h0) (by unfold pj_up; rw [if_neg (by omega), if_neg (by omega)]; exact h1) (fun a b c ha hb hc => ?_)
    unfold pj_up
    by_cases q1 : 2 + 5 * (5 * a + b) + c = 2 + 5 * (5 * J + I) + K
    · have x1 : a = J := by omega
      have x2 : b = I := by omega
      have x3 : c = K := by omega
      subst x1 x2 x3
      rw [if_pos q1, if_pos (by omega)]
      unfold tt_set
      rw [if_neg (by omega), if_pos ⟨rfl, rfl⟩]
    · rw [if_neg q1]
      by_cases q2 : 2 + 5 * (5 * a + b) + c = 2 + 5 * (5 * I + J) + K
      · have x1 : a = I := by omega
        have x2 : b = J := by omega
        have x3 : c = K := by omega
        subst x1 x2 x3
        rw [if_pos q2, if_pos (by omega)]
        unfold tt_set
        rw [if_pos ⟨rfl, rfl⟩]
      · rw [if_neg q2, h2 a b c ha hb hc]
        by_cases q3 : c < K
        · rw [if_pos q3, if_pos (by omega)]
        · rw [if_neg q3]
          by_cases q4 : c < K + 1
          · rw [if_pos q4]
            unfold tt_set
            rw [if_neg (by rintro ⟨z1, z2⟩; subst z1 z2; exact q2 (by omega)), if_neg (by rintro ⟨z1, z2⟩; subst z1 z2; exact q1 (by omega))]
          · rw [if_neg q4]
/-- setPair(i, j, row, from) -/
theorem d_setPair {len F I J : Nat} {f i j : Int} {g : Nat → Int} (hlen : len ≤ 100000) (hp : nn_p p) (hs : st_m p N T s) (hf : f = F) (hF : F + 5 ≤ len) (hi : i = I) (hj : j = J) (hI : I < 5) (hJ : J < 5) (hne : I ≠ J) (hg : ∀ k, k < 5 → 0 ≤ g (F + k) ∧ g (F + k) < p)
    (hQ : ∀ s', st_m p N (tt_set p T I J (fun k => g (F + k))) s' → Q none [o_s, c_A 127 s', c_A len g]) : pj_ci X m_Mo_setPair [.inr 0, .inl i, .inl j, .inr 2, .inl f] [o_s, c_A 127 s, c_A len g] Q := by
  refine wp_g rfl (by omega) ?_
  exact d_setPair_loop hlen hp hs hf hF hi hj hI hJ hne hg hQ 5 0 _ _ (by omega) (by omega) hs.1 hs.2.1 (fun a b c ha hb hc => by rw [if_neg (by omega)]; exact hs.2.2 a b c ha hb hc)
theorem d_leadOf_loop {len F : Nat} {f : Int} {g : Nat → Int} (hlen : len ≤ 100000) (hN : N ≤ 5) (h1 : s 1 = (N : Int)) (hf : f = F) (hF : F + N ≤ len) (hg : ∀ k, k < N → pj_rg (g (F + k)))
    (hQ : ∀ K : Nat, K ≤ N → (∀ j, j < K → g (F + j) = 0) → (K < N → g (F + K) ≠ 0) → Q (some (.inl (K : Int))) [o_s, c_A 127 s, c_A len g]) :
    ∀ (m K : Nat) (k : Int), K + m = N → k = K → (∀ j, j < K → g (F + j) = 0) → pj_WP X m_Mo_leadOf 2 [.inr 0, .inr 2, .inl f, .inl k] [] [o_s, c_A 127 s, c_A len g] Q := by
  have h1' : s (Int.toNat 1) = (N : Int) := h1
  intro m
  induction m with
  | zero =>
    intro K k hK hk h0
    refine wp_b rfl (by omega) (fun c => ?_) (fun c => absurd c (by omega))
    refine wp_r rfl (by omega) ?_
    rw [hk]
    exact hQ K (by omega) h0 (fun z => by omega)
  | succ m ih =>
    intro K k hK hk h0
    have e1 : (f + k).toNat = F + K := by omega
    obtain ⟨r1, r2⟩ := hg K (by omega)
    refine wp_b rfl (by omega) (fun c => absurd c (by omega)) (fun c => ?_)
    refine wp_b rfl (by rw [e1]; omega) (fun c2 => ?_) (fun c2 => ?_)
    · rw [e1] at c2
      refine wp_r rfl (by omega) ?_
      rw [hk]
      exact hQ K (by omega) h0 (fun _ => c2)
    · rw [e1] at c2
      refine wp_g rfl (by omega) ?_
      refine ih (K + 1) _ (by omega) (by omega) (fun j hj => ?_)
      by_cases h : j = K
      · subst h; exact Decidable.of_not_not c2
      · exact h0 j (by omega)
/-- leadOf(row, from) -/
theorem d_leadOf {len F : Nat} {f : Int} {g : Nat → Int} (hlen : len ≤ 100000) (hN : N ≤ 5) (h1 : s 1 = (N : Int)) (hf : f = F) (hF : F + N ≤ len) (hg : ∀ k, k < N → pj_rg (g (F + k)))
    (hQ : ∀ K : Nat, K ≤ N → (∀ j, j < K → g (F + j) = 0) → (K < N → g (F + K) ≠ 0) → Q (some (.inl (K : Int))) [o_s, c_A 127 s, c_A len g]) : pj_ci X m_Mo_leadOf [.inr 0, .inr 2, .inl f] [o_s, c_A 127 s, c_A len g] Q := by
  refine wp_g rfl (by omega) ?_
  exact d_leadOf_loop hlen hN h1 hf hF hg hQ N 0 _ (by omega) (by omega) (fun j hj => by omega)
theorem d_clear_loop {len lb F FB : Nat} {f fb fac ld : Int} {g b : Nat → Int} (hlen : len ≤ 100000) (hlb : lb ≤ 100000) (hp : nn_p p) (hN : N ≤ 5) (h0 : s 0 = p) (h1 : s 1 = (N : Int)) (hf : f = F) (hfb : fb = FB) (hF : F + N ≤ len) (hFB : FB + N ≤ lb) (hfac : 0 ≤ fac ∧ fac < p) (hg : ∀ k, k < N → 0 ≤ g (F + k) ∧ g (F + k) < p) (hb : ∀ k, k < N → 0 ≤ b (FB + k) ∧ b (FB + k) < p)
    (hQ : ∀ g' : Nat → Int, (∀ k, k < N → g' (F + k) = (g (F + k) - fac * b (FB + k)) % p) → (∀ q, (q < F ∨ F + N ≤ q) → g' q = g q) → Q none [o_s, c_A 127 s, c_A len g', c_A lb b]) :
    ∀ (m K : Nat) (g' : Nat → Int) (k : Int), K + m = N → k = K → (∀ k, k < N → g' (F + k) = if k < K then (g (F + k) - fac * b (FB + k)) % p else g (F + k)) → (∀ q, (q < F ∨ F + N ≤ q) → g' q = g q) → pj_WP X m_Mo_clear 11 [.inr 0, .inr 2, .inl f, .inr 3, .inl fb, .inl ld, .inl fac, .inl k] [] [o_s, c_A 127 s, c_A len g', c_A lb b] Q := by
  obtain ⟨hp1, hp2, hp3⟩ := nn_p_pos hp
  have h1' : s (Int.toNat 1) = (N : Int) := h1
  intro m
  induction m with
  | zero =>
    intro K g' k hK hk h2 h3
    refine wp_b rfl (by omega) (fun c => ?_) (fun c => absurd c (by omega))
    refine wp_r rfl (by omega) (hQ g' (fun k hk => ?_) h3)
    rw [h2 k hk, if_pos (by omega)]
  | succ m ih =>
    intro K g' k hK hk h2 h3
    have e1 : (f + k).toNat = F + K := by omega
    have e2 : (fb + k).toNat = FB + K := by omega
    have r1 := hg K (by omega)
    have r2 := nn_f7 hp hfac (hb K (by omega))
    have e3 : g' (F + K) = g (F + K) := by rw [h2 K (by omega), if_neg (by omega)]
    refine wp_b rfl (by omega) (fun c => absurd c (by omega)) (fun c => ?_)
    refine wp_c rfl (by omega) [0, 1] (d_mod hp h0 (by rw [e1, e2, e3]; unfold pj_rg; omega) ?_) rfl rfl rfl rfl
    rw [e1, e2, e3]
    refine wp_h [o_s, c_A 127 s, c_A len g', c_A lb b] rfl ?_
    refine wp_g rfl (by omega) ?_
    rw [e1]
    refine ih (K + 1) _ _ (by omega) (by omega) (fun q hq => ?_) (fun q hq => ?_)
    · unfold pj_up
      by_cases h : q = K
      · subst h
        rw [if_pos rfl, if_pos (by omega)]
      · rw [if_neg (by omega), h2 q hq]
        by_cases h4 : q < K
        · rw [if_pos h4, if_pos (by omega)]
        · rw [if_neg h4, if_neg (by omega)]
    · unfold pj_up
      rw [if_neg (by omega)]
      exact h3 q hq
/-- clear(row, from, by, fromBy, lead) -/
theorem d_clear {len lb F FB LD : Nat} {f fb ld : Int} {g b : Nat → Int} (hlen : len ≤ 100000) (hlb : lb ≤ 100000) (hp : nn_p p) (hN : N ≤ 5) (h0 : s 0 = p) (h1 : s 1 = (N : Int)) (hf : f = F) (hfb : fb = FB) (hld : ld = LD) (hLD : LD < N) (hF : F + N ≤ len) (hFB : FB + N ≤ lb) (hg : ∀ k, k < N → 0 ≤ g (F + k) ∧ g (F + k) < p) (hb : ∀ k, k < N → 0 ≤ b (FB + k) ∧ b (FB + k) < p)
    (hQ : ∀ g' : Nat → Int, (∀ k, k < N → g' (F + k) = (g (F + k) - g (F + LD) * b (FB + k)) % p) → (∀ q, (q < F ∨ F + N ≤ q) → g' q = g q) → Q none [o_s, c_A 127 s, c_A len g', c_A lb b]) : pj_ci X m_Mo_clear [.inr 0, .inr 2, .inl f, .inr 3, .inl fb, .inl ld] [o_s, c_A 127 s, c_A len g, c_A lb b] Q := by
  have e1 : (f + ld).toNat = F + LD := by omega
  refine wp_g rfl (by omega) ?_
  rw [e1]
  exact d_clear_loop hlen hlb hp hN h0 h1 hf hfb hF hFB (hg LD hLD) hg hb hQ N 0 _ _ (by omega) (by omega) (fun k hk => by rw [if_neg (by omega)]) (fun q _ => rfl)
end MO2
