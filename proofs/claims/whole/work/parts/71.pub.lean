/-! THE MODEL: keep, the table's and the snapshots' methods, bracket, Jacobi -/
abbrev o_s0 : pj_C := .inr (8, [.inl 0, .inr 1, v_u, v_u, v_u, v_u, v_u, v_u, v_u, v_u, v_u, v_u, v_u, v_u, v_u, v_u, v_u, v_u, v_u, v_u, v_u, v_u, v_u, v_u, v_u, v_u, v_u, v_u])
abbrev o_h (d : Int) : pj_C := .inr (8, [v_u, .inr 1, .inr 2, .inl d, v_u, v_u, v_u, v_u, v_u, v_u, v_u, v_u, v_u, v_u, v_u, v_u, v_u, v_u, v_u, v_u, v_u, v_u, v_u, v_u, v_u, v_u, v_u, v_u])
abbrev o_h0 (d : Int) : pj_C := .inr (8, [.inl 0, .inr 1, .inr 2, .inl d, v_u, v_u, v_u, v_u, v_u, v_u, v_u, v_u, v_u, v_u, v_u, v_u, v_u, v_u, v_u, v_u, v_u, v_u, v_u, v_u, v_u, v_u, v_u, v_u])
abbrev o_e0 (d : Int) : pj_C := .inr (8, [.inl 0, .inr 1, .inr 2, .inl d, v_u, v_u, v_u, v_u, .inr 3, v_u, v_u, v_u, v_u, v_u, v_u, v_u, v_u, v_u, v_u, v_u, v_u, v_u, v_u, v_u, v_u, v_u, v_u, v_u])
abbrev o_b0 : pj_C := .inr (8, [.inl 0, .inr 1, v_u, v_u, v_u, v_u, v_u, v_u, .inr 2, .inr 3, .inr 4, v_u, v_u, v_u, v_u, v_u, v_u, v_u, v_u, v_u, v_u, v_u, v_u, v_u, v_u, v_u, v_u, v_u])
abbrev o_x0 (l : Int) : pj_C := .inr (8, [.inl 0, v_u, v_u, v_u, v_u, v_u, .inr 1, .inl l, v_u, v_u, v_u, v_u, v_u, v_u, v_u, v_u, v_u, v_u, v_u, v_u, v_u, v_u, v_u, v_u, v_u, v_u, v_u, v_u])
abbrev o_w0 : pj_C := .inr (8, [.inl 0, .inr 1, v_u, v_u, .inr 2, .inr 3, v_u, v_u, v_u, v_u, v_u, v_u, v_u, v_u, v_u, v_u, v_u, v_u, v_u, v_u, v_u, v_u, v_u, v_u, v_u, v_u, v_u, v_u])
abbrev o_u0 (d : Int) : pj_C := .inr (8, [.inl 0, .inr 1, v_u, .inl d, .inr 2, .inr 3, v_u, v_u, v_u, v_u, v_u, v_u, v_u, v_u, v_u, v_u, v_u, v_u, v_u, v_u, v_u, v_u, v_u, v_u, v_u, v_u, v_u, v_u])
abbrev c_Z (len : Nat) (f : Nat → Int) : pj_C := .inl (1, len, f)
abbrev w_s0 (s : Nat → Int) : List pj_C := [o_s0, c_A 127 s]
abbrev w_h (s h : Nat → Int) (d : Int) : List pj_C := [o_h d, c_A 127 s, c_A 762 h]
abbrev w_h0 (s h : Nat → Int) (d : Int) : List pj_C := [o_h0 d, c_A 127 s, c_A 762 h]
abbrev w_e0 (s h on : Nat → Int) (d : Int) : List pj_C := [o_e0 d, c_A 127 s, c_A 762 h, c_A 5 on]
abbrev w_b0 (s on tw r : Nat → Int) : List pj_C := [o_b0, c_A 127 s, c_A 5 on, c_A 5 tw, c_A 5 r]
abbrev w_x0 (l : Int) (f : Nat → Int) : List pj_C := [o_x0 l, c_A 120 f]
abbrev w_w0 (s sl sv : Nat → Int) : List pj_C := [o_w0, c_A 127 s, c_A 254 sl, c_Z 2 sv]
abbrev w_u0 (s sl sv : Nat → Int) (d : Int) : List pj_C := [o_u0 d, c_A 127 s, c_A 254 sl, c_Z 2 sv]
section MPUB
variable {X : pj_X} {Q : pj_Q} {p : Int} {N : Nat} {T : Nat → Nat → Nat → Int} {s : Nat → Int}
theorem d_keep_shift {h0 : Nat → Int} {d : Int}
    (hQ : ∀ (h : Nat → Int) (e : pj_V), (∀ q, h q = if q < 635 then h0 (127 + q) else h0 q) → pj_WP X m_Mo_keep 39 [.inr 0, e] [] (w_h s h d) Q) :
    ∀ (m K : Nat) (h : Nat → Int) (k : Int), K + m = 635 → k = K → (∀ q, h q = if q < K then h0 (127 + q) else h0 q) → pj_WP X m_Mo_keep 11 [.inr 0, .inl k] [] (w_h s h d) Q := by
  intro m
  induction m with
  | zero =>
    intro K h k hK hk hh
    refine wp_b rfl (by omega) (fun c => ?_) (fun c => absurd c (by omega))
    rw [show K = 635 by omega] at hh
    exact hQ h _ hh
  | succ m ih =>
    intro K h k hK hk hh
    have e1 : k.toNat = K := by omega
    have e2 : (127 + k).toNat = 127 + K := by omega
    refine wp_b rfl (by omega) (fun c => absurd c (by omega)) (fun c => ?_)
    refine wp_g rfl (by omega) ?_
    rw [e1, e2]
    refine ih (K + 1) _ _ (by omega) (by omega) (fun q => ?_)
    unfold pj_up
    by_cases e : q = K
    · subst e
      rw [if_pos rfl, if_pos (by omega), hh, if_neg (by omega)]
    · rw [if_neg e, hh q]
      by_cases e3 : q < K
      · rw [if_pos e3, if_pos (by omega)]
      · rw [if_neg e3, if_neg (by omega)]
theorem d_keep_put {h0 : Nat → Int} {d : Int} {D : Nat} (hd : d = D) (hD : D ≤ 5)
    (hQ : ∀ (h : Nat → Int), (∀ q, h q = if 127 * D ≤ q ∧ q < 127 * D + 127 then s (q - 127 * D) else h0 q) → Q none (w_h s h (d + 1))) :
    ∀ (m K : Nat) (h : Nat → Int) (k : Int), K + m = 127 → k = K → (∀ q, h q = if 127 * D ≤ q ∧ q < 127 * D + K then s (q - 127 * D) else h0 q) → pj_WP X m_Mo_keep 51 [.inr 0, .inl k] [] (w_h s h d) Q := by
  intro m
  induction m with
  | zero =>
    intro K h k hK hk hh
    refine wp_b rfl (by omega) (fun c => ?_) (fun c => absurd c (by omega))
    rw [show K = 127 by omega] at hh
    exact wp_r rfl (by omega) (hQ h hh)
  | succ m ih =>
    intro K h k hK hk hh
    have e1 : k.toNat = K := by omega
    have e2 : (127 * d + k).toNat = 127 * D + K := by omega
    refine wp_b rfl (by omega) (fun c => absurd c (by omega)) (fun c => ?_)
    refine wp_g rfl (by omega) ?_
    rw [e1, e2]
    refine ih (K + 1) _ _ (by omega) (by omega) (fun q => ?_)
    unfold pj_up
    by_cases e : q = 127 * D + K
    · rw [if_pos e, if_pos (by omega), show q - 127 * D = K by omega]
    · rw [if_neg e, hh q]
      by_cases e3 : 127 * D ≤ q ∧ q < 127 * D + K
      · rw [if_pos e3, if_pos (by omega)]
      · rw [if_neg e3, if_neg (by omega)]
/-- what keep() leaves of the history -/
def kp_is (D : Nat) (s h h' : Nat → Int) : Prop := if D = 6 then ((∀ k, k < 127 → h' (635 + k) = s k) ∧ ∀ q, q < 635 → h' q = h (127 + q)) else ((∀ k, k < 127 → h' (127 * D + k) = s k) ∧ ∀ q, q < 127 * D → h' q = h q)
/-- keep() -/
theorem d_keep {h : Nat → Int} {d : Int} {D : Nat} (hd : d = D) (hD : D ≤ 6) (hQ : ∀ (h' : Nat → Int), kp_is D s h h' → Q none (w_h s h' (if D = 6 then 6 else d + 1))) : pj_ci X m_Mo_keep [.inr 0] (w_h s h d) Q := by
  refine wp_b rfl (by omega) (fun c => ?_) (fun c => ?_)
  · have hn : ¬ D = 6 := by omega
    refine wp_g rfl (by omega) ?_
    refine d_keep_put (D := D) (h0 := h) hd (by omega) (fun h' hh => ?_) 127 0 _ _ (by omega) (by omega) (fun q => by rw [if_neg (by omega)])
    have h9 := hQ h' (by
      unfold kp_is
      rw [if_neg hn]
      exact ⟨fun k hk => by rw [hh, if_pos (by omega), show 127 * D + k - 127 * D = k by omega], fun q hq => by rw [hh, if_neg (by omega)]⟩)
    rw [if_neg hn] at h9
    exact h9
  · have hn : D = 6 := by omega
    refine wp_g rfl (by omega) ?_
    refine d_keep_shift (h0 := h) (fun h1 e hh1 => ?_) 635 0 _ _ (by omega) (by omega) (fun q => by rw [if_neg (by omega)])
    refine wp_g rfl (by omega) ?_
    refine d_keep_put (D := 5) (h0 := h1) (by omega) (by omega) (fun h' hh => ?_) 127 0 _ _ (by omega) (by omega) (fun q => by rw [if_neg (by omega)])
    have h9 := hQ h' (by
      unfold kp_is
      rw [if_pos hn]
      exact ⟨fun k hk => by rw [hh, if_pos (by omega), show 635 + k - 127 * 5 = k by omega], fun q hq => by rw [hh, if_neg (by omega), hh1, if_pos (by omega)]⟩)
    rw [if_pos hn] at h9
    rw [show d - 1 + 1 = 6 by omega]
    exact h9
theorem d_cf_zero {h : Nat → Int} {d pp nn : Int}
    (hQ : ∀ (s' : Nat → Int) (e : pj_V), (∀ q, q < 127 → s' q = 0) → pj_WP X m_Mo_configure 62 [.inr 0, .inl pp, .inl nn, e] [] (w_h0 s' h d) Q) :
    ∀ (m K : Nat) (s' : Nat → Int) (k : Int), K + m = 127 → k = K → (∀ q, q < K → s' q = 0) → pj_WP X m_Mo_configure 43 [.inr 0, .inl pp, .inl nn, .inl k] [] (w_h0 s' h d) Q := by
  intro m
  induction m with
  | zero =>
    intro K s' k hK hk hh
    refine wp_b rfl (by omega) (fun c => ?_) (fun c => absurd c (by omega))
    exact hQ s' _ (fun q hq => hh q (by omega))
  | succ m ih =>
    intro K s' k hK hk hh
    have e1 : k.toNat = K := by omega
    refine wp_b rfl (by omega) (fun c => absurd c (by omega)) (fun c => ?_)
    refine wp_g rfl (by omega) ?_
    rw [e1]
    refine ih (K + 1) _ _ (by omega) (by omega) (fun q hq => ?_)
    unfold pj_up
    by_cases e : q = K
    · rw [if_pos e]
    · rw [if_neg e]
      exact hh q (by omega)
/-- configure(p, n) -/
theorem d_configure {h : Nat → Int} {d pp nn : Int} {D : Nat} (hd : d = D) (hD : D ≤ 6) (hpp : pj_rg pp) (hnn : pj_rg nn)
    (h0 : ¬ (nn_p pp ∧ 1 ≤ nn ∧ nn ≤ 5) → Q (some (.inl (-1))) (w_h0 s h d))
    (h1 : ∀ (M : Nat) (s' h' : Nat → Int), nn_p pp → nn = M → 1 ≤ M → M ≤ 5 → kp_is D s h h' → st_m pp M (fun _ _ _ => 0) s' → Q (some (.inl (pp ^ M))) (w_h0 s' h' (if D = 6 then 6 else d + 1))) : pj_ci X m_Mo_configure [.inr 0, .inl pp, .inl nn] (w_h0 s h d) Q := by
  obtain ⟨p1, p2⟩ := hpp
  have good : nn_p pp → pj_WP X m_Mo_configure 29 [.inr 0, .inl pp, .inl nn, v_u] [.inl 5, .inl 1, .inl nn] (w_h0 s h d) Q := by
    intro hp
    refine wp_c rfl (by omega) [] (d_in hnn (by unfold pj_rg; omega) (by unfold pj_rg; omega) (fun a b => ?_) (fun a => ?_)) rfl rfl rfl rfl
    · refine wp_b rfl (by omega) (fun _ => ?_) (fun c => absurd c (by omega))
      refine wp_c rfl (by omega) [0, 1, 2] (d_keep hd hD (fun h' hk => ?_)) rfl rfl rfl rfl
      refine wp_h (w_h0 s h' (if D = 6 then 6 else d + 1)) rfl ?_
      refine wp_g rfl (by omega) ?_
      refine d_cf_zero (fun s1 e hs1 => ?_) 127 0 _ _ (by omega) (by omega) (fun q hq => by omega)
      have en : nn = ((nn.toNat : Nat) : Int) := by omega
      refine wp_c rfl (by omega) [] (d_power (p := pp) (E := nn.toNat) (by omega) en ?_) rfl rfl rfl rfl
      refine wp_r rfl (by omega) ?_
      refine h1 nn.toNat _ h' hp en (by omega) (by omega) hk ⟨?_, ?_, fun i j k hi hj hk => ?_⟩
      · show pj_up (pj_up s1 (Int.toNat 0) pp) (Int.toNat 1) nn 0 = pp
        rfl
      · show pj_up (pj_up s1 (Int.toNat 0) pp) (Int.toNat 1) nn 1 = _
        exact en
      · show (if 2 + 5 * (5 * i + j) + k = 1 then nn else if 2 + 5 * (5 * i + j) + k = 0 then pp else s1 (2 + 5 * (5 * i + j) + k)) = 0
        rw [if_neg (by omega), if_neg (by omega)]
        exact hs1 _ (by omega)
    · refine wp_b rfl (by omega) (fun c => absurd rfl c) (fun _ => ?_)
      exact wp_r rfl (by omega) (h0 (fun z => by omega))
  refine wp_b rfl (by omega) (fun c => wp_g rfl (by omega) (good (by unfold nn_p; omega))) (fun c1 => ?_)
  refine wp_b rfl (by omega) (fun c => wp_g rfl (by omega) (good (by unfold nn_p; omega))) (fun c2 => ?_)
  refine wp_b rfl (by omega) (fun c => wp_g rfl (by omega) (good (by unfold nn_p; omega))) (fun c3 => ?_)
  refine wp_b rfl (by omega) (fun c => ?_) (fun c4 => wp_g rfl (by omega) (good (by unfold nn_p; omega)))
  exact wp_r rfl (by omega) (h0 (fun z => by unfold nn_p at z; omega))
/-- what setBracket makes of the table -/
def sb_T (p : Int) (N : Nat) (T : Nat → Nat → Nat → Int) (I J : Nat) (v : Int) : Nat → Nat → Nat → Int := tt_set p T I J (fun k => if k < N then nn_dg p v k else 0)
theorem st_m_ext {T T' : Nat → Nat → Nat → Int} {s : Nat → Int} (h : st_m p N T s) (e : ∀ i j k, i < 5 → j < 5 → k < 5 → T i j k = T' i j k) : st_m p N T' s := ⟨h.1, h.2.1, fun i j k hi hj hk => by rw [h.2.2 i j k hi hj hk]; exact e i j k hi hj hk⟩
/-- setBracket(i, j, value) -/
theorem d_setBracket (ht : tt_ok p N T) (hs : st_m p N T s) {h on : Nat → Int} {d i j v : Int} {D : Nat} (hd : d = D) (hD : D ≤ 6) (hi : pj_rg i) (hj : pj_rg j) (hv : pj_rg v)
    (h0 : ¬ ((0 ≤ i ∧ i < N) ∧ (0 ≤ j ∧ j < N) ∧ i ≠ j ∧ 0 ≤ v ∧ v < p ^ N) → Q (some (.inl (-1))) (w_e0 s h on d))
    (h1 : ∀ (I J : Nat) (s' h' on : Nat → Int), i = I → j = J → I < N → J < N → I ≠ J → 0 ≤ v → v < p ^ N → kp_is D s h h' → st_m p N (sb_T p N T I J v) s' → Q (some (.inl (nn_nm p N (T I J)))) (w_e0 s' h' on (if D = 6 then 6 else d + 1))) : pj_ci X m_Mo_setBracket [.inr 0, .inl i, .inl j, .inl v] (w_e0 s h on d) Q := by
  obtain ⟨hp, h1N, hN, hT, -⟩ := id ht
  obtain ⟨s0, s1, s2⟩ := id hs
  have hpw := nn_pwle hp N hN
  obtain ⟨i1, i2⟩ := id hi
  obtain ⟨j1, j2⟩ := id hj
  refine wp_c rfl (by omega) [0, 1] (d_isIndex hN s1 hi (fun a1 a2 => ?_) (fun a => ?_)) rfl rfl rfl rfl
  · refine wp_h (w_e0 s h on d) rfl ?_
    refine wp_b rfl (by omega) (fun c => absurd c (by omega)) (fun _ => ?_)
    refine wp_c rfl (by omega) [0, 1] (d_isIndex hN s1 hj (fun b1 b2 => ?_) (fun b => ?_)) rfl rfl rfl rfl
    · refine wp_h (w_e0 s h on d) rfl ?_
      refine wp_b rfl (by omega) (fun c => absurd c (by omega)) (fun _ => ?_)
      refine wp_b rfl (by omega) (fun c => ?_) (fun hne => ?_)
      · exact wp_r rfl (by omega) (h0 (by omega))
      · refine wp_c rfl (by omega) [0, 1] (d_isVector hp hN s0 s1 hv (fun c1 c2 => ?_) (fun c => ?_)) rfl rfl rfl rfl
        · refine wp_h (w_e0 s h on d) rfl ?_
          refine wp_b rfl (by omega) (fun _ => ?_) (fun c => absurd c (by omega))
          refine wp_c rfl (by omega) [0, 1, 2] (d_keep hd hD (fun h' hk => ?_)) rfl rfl rfl rfl
          refine wp_h (w_e0 s h' on (if D = 6 then 6 else d + 1)) rfl ?_
          refine wp_c rfl (by omega) [] (d_at ?_) rfl rfl rfl rfl
          refine wp_h (w_e0 s h' on (if D = 6 then 6 else d + 1)) rfl ?_
          refine wp_c rfl (by omega) [0, 1] (d_numberS (F := 2 + 5 * (5 * i.toNat + j.toNat)) hN s0 s1 (by omega) (by omega) ?_) rfl rfl rfl rfl
          refine wp_h (w_e0 s h' on (if D = 6 then 6 else d + 1)) rfl ?_
          have en : nn_nm p N (fun k => s (2 + 5 * (5 * i.toNat + j.toNat) + k)) = nn_nm p N (T i.toNat j.toNat) := nn_nm_congr N (fun k hk => s2 _ _ k (by omega) (by omega) (by omega))
          rw [en]
          refine wp_c rfl (by omega) [0, 1, 3] (d_read hp hN s0 s1 ⟨c1, by omega⟩ ?_) rfl rfl rfl rfl
          refine wp_h (w_e0 s h' (rd_f p N v on) (if D = 6 then 6 else d + 1)) rfl ?_
          refine wp_c rfl (by omega) [0, 1, 3] (d_setPair (len := 5) (F := 0) (I := i.toNat) (J := j.toNat) (by omega) hp hs rfl (by omega) (by omega) (by omega) (by omega) (by omega) (by omega) (fun k hk => ⟨(rd_f_ok hp k hk).1, (rd_f_ok hp k hk).2.1⟩) (fun s' hs' => ?_)) rfl rfl rfl rfl
          refine wp_r rfl (by omega) ?_
          refine h1 i.toNat j.toNat s' h' (rd_f p N v on) (by omega) (by omega) (by omega) (by omega) (by omega) c1 c2 hk (st_m_ext hs' (fun a b k ha hb hk => ?_))
          have ex : rd_f p N v on (0 + k) = if k < N then nn_dg p v k else 0 := by
            show (if 0 + k < 5 then (if 0 + k < N then nn_dg p v (0 + k) else 0) else on (0 + k)) = _
            rw [Nat.zero_add, if_pos hk]
          unfold sb_T tt_set
          simp only [ex]
        · refine wp_h (w_e0 s h on d) rfl ?_
          refine wp_b rfl (by omega) (fun c => absurd rfl c) (fun _ => ?_)
          exact wp_r rfl (by omega) (h0 (by omega))
    · refine wp_h (w_e0 s h on d) rfl ?_
      refine wp_b rfl (by omega) (fun _ => ?_) (fun c => absurd rfl c)
      exact wp_r rfl (by omega) (h0 (by omega))
  · refine wp_h (w_e0 s h on d) rfl ?_
    refine wp_b rfl (by omega) (fun _ => ?_) (fun c => absurd rfl c)
    exact wp_r rfl (by omega) (h0 (by omega))
/-- append(character) -/
theorem d_append {f : Nat → Int} {l z : Int} {L : Nat} (hl : l = L) (hL : L ≤ 120) (hz : pj_rg z)
    (h0 : ¬ (0 ≤ z ∧ z ≤ 255) → Q (some (.inl (-1))) (w_x0 l f)) (h1 : (0 ≤ z ∧ z ≤ 255) → L = 120 → Q (some (.inl (-3))) (w_x0 l f)) (h2 : (0 ≤ z ∧ z ≤ 255) → L < 120 → Q (some (.inl (l + 1))) (w_x0 (l + 1) (pj_up f L z))) : pj_ci X m_Mo_append [.inr 0, .inl z] (w_x0 l f) Q := by
  refine wp_c rfl (by omega) [] (d_in hz (by unfold pj_rg; omega) (by unfold pj_rg; omega) (fun a b => ?_) (fun a => ?_)) rfl rfl rfl rfl
  · refine wp_b rfl (by omega) (fun _ => ?_) (fun c => absurd c (by omega))
    refine wp_b rfl (by omega) (fun c => ?_) (fun c => ?_)
    · have e : l.toNat = L := by omega
      refine wp_r rfl (by omega) ?_
      have h9 := h2 ⟨a, b⟩ (by omega)
      rw [← e] at h9
      exact h9
    · exact wp_r rfl (by omega) (h1 ⟨a, b⟩ (by omega))
  · refine wp_b rfl (by omega) (fun c => absurd rfl c) (fun _ => ?_)
    exact wp_r rfl (by omega) (h0 (by omega))
theorem d_clearText {f : Nat → Int} {l : Int} (hQ : Q (some (.inl l)) (w_x0 0 f)) : pj_ci X m_Mo_clearText [.inr 0] (w_x0 l f) Q := wp_r rfl (by omega) hQ
theorem d_prime (h0 : s 0 = p) (hQ : Q (some (.inl p)) (w_s0 s)) : pj_ci X m_Mo_prime [.inr 0] (w_s0 s) Q := by
  have h0' : s (Int.toNat 0) = p := h0
  refine wp_r rfl (by omega) ?_
  rw [h0']
  exact hQ
theorem d_dimension (h1 : s 1 = (N : Int)) (hQ : Q (some (.inl (N : Int))) (w_s0 s)) : pj_ci X m_Mo_dimension [.inr 0] (w_s0 s) Q := by
  have h1' : s (Int.toNat 1) = (N : Int) := h1
  refine wp_r rfl (by omega) ?_
  rw [h1']
  exact hQ
def an_br (p : Int) (N : Nat) (T : Nat → Nat → Nat → Int) (u v z : Int) : Prop := (¬ (0 ≤ u ∧ u < p ^ N ∧ 0 ≤ v ∧ v < p ^ N) ∧ z = -1) ∨ ((0 ≤ u ∧ u < p ^ N ∧ 0 ≤ v ∧ v < p ^ N) ∧ z = nn_nm p N (tt_bk p N T (nn_dg p u) (nn_dg p v)))
/-- bracket(u, v) -/
theorem d_bracket (ht : tt_ok p N T) (hs : st_m p N T s) {u v : Int} (hu : pj_rg u) (hv : pj_rg v) {on tw r : Nat → Int}
    (hQ : ∀ (on tw r : Nat → Int) (z : Int), an_br p N T u v z → Q (some (.inl z)) (w_b0 s on tw r)) : pj_ci X m_Mo_bracket [.inr 0, .inl u, .inl v] (w_b0 s on tw r) Q := by
  obtain ⟨hp, h1N, hN, hT, -⟩ := id ht
  obtain ⟨h0, h1, h2⟩ := id hs
  have hpw := nn_pwle hp N hN
  refine wp_c rfl (by omega) [0, 1] (d_isVector hp hN h0 h1 hu (fun a1 a2 => ?_) (fun a => ?_)) rfl rfl rfl rfl
  · refine wp_h (w_b0 s on tw r) rfl ?_
    refine wp_b rfl (by omega) (fun c => absurd c (by omega)) (fun _ => ?_)
    refine wp_c rfl (by omega) [0, 1] (d_isVector hp hN h0 h1 hv (fun b1 b2 => ?_) (fun b => ?_)) rfl rfl rfl rfl
    · refine wp_h (w_b0 s on tw r) rfl ?_
      refine wp_b rfl (by omega) (fun _ => ?_) (fun c => absurd c (by omega))
      refine wp_c rfl (by omega) [0, 1, 2] (d_read hp hN h0 h1 ⟨a1, by omega⟩ ?_) rfl rfl rfl rfl
      refine wp_h (w_b0 s (rd_f p N u on) tw r) rfl ?_
      refine wp_c rfl (by omega) [0, 1, 3] (d_read hp hN h0 h1 ⟨b1, by omega⟩ ?_) rfl rfl rfl rfl
      refine wp_h (w_b0 s (rd_f p N u on) (rd_f p N v tw) r) rfl ?_
      refine wp_c rfl (by omega) [0, 1, 4, 2, 3] (d_br (lu := 5) (lv := 5) (by omega) (by omega) ht hs (FU := 0) (FV := 0) rfl rfl (by omega) (by omega) (fun k hk => ⟨(rd_f_ok hp k (by omega)).1, (rd_f_ok hp k (by omega)).2.1⟩) (fun k hk => ⟨(rd_f_ok hp k (by omega)).1, (rd_f_ok hp k (by omega)).2.1⟩) ?_) rfl rfl rfl rfl
      have eb : ∀ k, k < N → (if 0 + k < 5 then tt_bk p N T (fun i => rd_f p N u on (0 + i)) (fun j => rd_f p N v tw (0 + j)) (0 + k) else r (0 + k)) = tt_bk p N T (nn_dg p u) (nn_dg p v) k := fun k hk => by
        rw [Nat.zero_add, if_pos (by omega)]
        exact tt_bk_ext (fun i hi => by rw [Nat.zero_add]; exact rd_f_eq hN hi) (fun i hi => by rw [Nat.zero_add]; exact rd_f_eq hN hi) k
      refine wp_h (w_b0 s (rd_f p N u on) (rd_f p N v tw) (fun k => if k < 5 then tt_bk p N T (fun i => rd_f p N u on (0 + i)) (fun j => rd_f p N v tw (0 + j)) k else r k)) rfl ?_
      refine wp_c rfl (by omega) [0, 1, 4] (d_number (len := 5) (F := 0) (by omega) hN h0 h1 rfl (by omega) ?_) rfl rfl rfl rfl
      refine wp_r rfl (by omega) (hQ _ _ _ _ (Or.inr ⟨⟨a1, a2, b1, b2⟩, ?_⟩))
      exact nn_nm_congr N (fun k hk => eb k hk)
    · refine wp_h (w_b0 s on tw r) rfl ?_
      refine wp_b rfl (by omega) (fun c => absurd rfl c) (fun _ => ?_)
      exact wp_r rfl (by omega) (hQ _ _ _ _ (Or.inl ⟨by omega, rfl⟩))
  · refine wp_h (w_b0 s on tw r) rfl ?_
    refine wp_b rfl (by omega) (fun _ => ?_) (fun c => absurd rfl c)
    exact wp_r rfl (by omega) (hQ _ _ _ _ (Or.inl ⟨by omega, rfl⟩))
/-- the Jacobi sum as the model has it -/
def jb_t (T : Nat → Nat → Nat → Int) (i j k c m : Nat) : Int := T j k m * T i m c + T k i m * T j m c + T i j m * T k m c
theorem jb_eq {i j k : Nat} (hi : i < N) (hj : j < N) (hk : k < N) (c : Nat) : nn_sm N (jb_t T i j k c) % p = jc_s p N T i j k c := by
  have one : ∀ a (x : ln_V), a < N → nn_eq p (tt_bk p N T (ln_e a) x c) (nn_sm N (fun m => x m * T a m c)) := fun a x ha => by
    refine nn_eq_trans (nn_eq_mod p _) ?_
    rw [nn_sm_one N a ha (fun i _ hne => nn_sm_0 N (fun j _ => by rw [show ln_e a i = 0 from if_neg hne, Int.zero_mul, Int.zero_mul]))]
    refine nn_eq_sm N (fun m _ => ?_)
    rw [show ln_e a a = 1 from if_pos rfl, Int.one_mul]
    exact nn_eq_rfl p _
  have e : nn_sm N (jb_t T i j k c) = nn_sm N (fun m => T j k m * T i m c) + nn_sm N (fun m => T k i m * T j m c) + nn_sm N (fun m => T i j m * T k m c) := by
    rw [← nn_sm_add, ← nn_sm_add]
    rfl
  unfold jc_s jc_t
  refine nn_eq_iff.mp ?_
  rw [e]
  exact nn_eq_symm (nn_eq_add (nn_eq_add (one i _ hi) (one j _ hj)) (one k _ hk))
set_option maxHeartbeats 1000000 in
theorem d_jb_in (ht : tt_ok p N T) (hs : st_m p N T s) {i j k c fl : Int} {I J K C : Nat} (hi : i = I) (hj : j = J) (hk : k = K) (hc : c = C) (hI : I < N) (hJ : J < N) (hK : K < N) (hC : C < N)
    (hQ : ∀ d : pj_V, pj_WP X m_Mo_isJacobi 131 [.inr 0, .inl i, .inl j, .inl k, .inl fl, .inl c, .inl (nn_sm N (jb_t T I J K C)), d] [] (w_s s) Q) :
    ∀ (n M : Nat) (x m : Int), M + n = N → m = M → x = nn_sm M (jb_t T I J K C) → pj_WP X m_Mo_isJacobi 23 [.inr 0, .inl i, .inl j, .inl k, .inl fl, .inl c, .inl x, .inl m] [] (w_s s) Q := by
  obtain ⟨hp, h1N, hN, hT, -⟩ := id ht
  obtain ⟨h0, h1, h2⟩ := id hs
  have h1' : s (Int.toNat 1) = (N : Int) := h1
  intro n
  induction n with
  | zero =>
    intro M x m hM hm hx
    refine wp_b rfl (by omega) (fun c => ?_) (fun c => absurd c (by omega))
    rw [hx, show M = N by omega]
    exact hQ _
  | succ n ih =>
    intro M x m hM hm hx
    have hat : ∀ (a b e : Int) (A B E : Nat), a = A → b = B → e = E → A < N → B < N → E < N → s (2 + 5 * (5 * a + b) + e).toNat = T A B E := fun a b e A B E ha hb he hA hB hE => by
      rw [show (2 + 5 * (5 * a + b) + e).toNat = 2 + 5 * (5 * A + B) + E by omega]
      exact h2 A B E (by omega) (by omega) (by omega)
    refine wp_b rfl (by omega) (fun c => absurd c (by omega)) (fun c9 => ?_)
    refine wp_c rfl (by omega) [] (d_at ?_) rfl rfl rfl rfl
    refine wp_h (w_s s) rfl ?_
    refine wp_c rfl (by omega) [] (d_at ?_) rfl rfl rfl rfl
    refine wp_h (w_s s) rfl ?_
    rw [hat j k m J K M hj hk hm hJ hK (by omega)]
    refine wp_c rfl (by omega) [] (d_at ?_) rfl rfl rfl rfl
    refine wp_h (w_s s) rfl ?_
    rw [hat i m c I M C hi hm hc hI (by omega) hC]
    refine wp_c rfl (by omega) [] (d_at ?_) rfl rfl rfl rfl
    refine wp_h (w_s s) rfl ?_
    rw [hat k i m K I M hk hi hm hK hI (by omega)]
    refine wp_c rfl (by omega) [] (d_at ?_) rfl rfl rfl rfl
    refine wp_h (w_s s) rfl ?_
    rw [hat j m c J M C hj hm hc hJ (by omega) hC]
    refine wp_c rfl (by omega) [] (d_at ?_) rfl rfl rfl rfl
    refine wp_h (w_s s) rfl ?_
    rw [hat i j m I J M hi hj hm hI hJ (by omega)]
    refine wp_g rfl (by omega) ?_
    rw [hat k m c K M C hk hm hc hK (by omega) hC]
    refine ih (M + 1) _ _ (by omega) (by omega) ?_
    rw [hx]
    rfl
theorem jb_rg (ht : tt_ok p N T) (i j k c : Nat) : 0 ≤ nn_sm N (jb_t T i j k c) ∧ nn_sm N (jb_t T i j k c) ≤ 540 := by
  obtain ⟨hp, h1N, hN, hT, -⟩ := id ht
  have h := nn_sm_rg (B := 108) N (f := jb_t T i j k c) (fun m hm => by
    have a := nn_f7 hp (hT j k m) (hT i m c)
    have b := nn_f7 hp (hT k i m) (hT j m c)
    have d := nn_f7 hp (hT i j m) (hT k m c)
    unfold jb_t
    omega)
  omega
theorem d_jb_out (ht : tt_ok p N T) (hs : st_m p N T s) {i j k : Int} {I J K : Nat} (hi : i = I) (hj : j = J) (hk : k = K) (hI : I < N) (hJ : J < N) (hK : K < N)
    (h1 : (∀ c, c < N → jc_s p N T I J K c = 0) → Q (some (.inl 1)) (w_s s)) (h0 : (∃ c, c < N ∧ jc_s p N T I J K c ≠ 0) → Q (some (.inl 0)) (w_s s)) :
    ∀ (n C : Nat) (fl c : Int) (d6 d7 : pj_V), C + n = N → c = C → ((fl = 1 ∧ ∀ c, c < C → jc_s p N T I J K c = 0) ∨ (fl = 0 ∧ ∃ c, c < N ∧ jc_s p N T I J K c ≠ 0)) → pj_WP X m_Mo_isJacobi 6 [.inr 0, .inl i, .inl j, .inl k, .inl fl, .inl c, d6, d7] [] (w_s s) Q := by
  obtain ⟨hp, h1N, hN, hT, -⟩ := id ht
  obtain ⟨hp1, hp2, hp3⟩ := nn_p_pos hp
  obtain ⟨s0, s1, s2⟩ := id hs
  have h1' : s (Int.toNat 1) = (N : Int) := s1
  intro n
  induction n with
  | zero =>
    intro C fl c d6 d7 hC hc hfl
    refine wp_b rfl (by omega) (fun c => ?_) (fun c => absurd c (by omega))
    rcases hfl with ⟨e, hz⟩ | ⟨e, hnz⟩
    · refine wp_r rfl (by omega) ?_
      rw [e]
      exact h1 (fun c hc => hz c (by omega))
    · refine wp_r rfl (by omega) ?_
      rw [e]
      exact h0 hnz
  | succ n ih =>
    intro C fl c d6 d7 hC hc hfl
    have hr := jb_rg ht I J K C
    have em := jb_eq (p := p) (T := T) hI hJ hK C
    refine wp_b rfl (by omega) (fun c => absurd c (by omega)) (fun _ => ?_)
    refine wp_g rfl (by omega) ?_
    refine d_jb_in ht hs hi hj hk hc hI hJ hK (by omega) (fun d => ?_) N 0 _ _ (by omega) (by omega) rfl
    rcases hfl with ⟨e, hz⟩ | ⟨e, hnz⟩
    · refine wp_b rfl (by omega) (fun c => absurd c (by omega)) (fun _ => ?_)
      refine wp_c rfl (by omega) [0, 1] (d_mod hp s0 (by unfold pj_rg; omega) ?_) rfl rfl rfl rfl
      rw [em]
      have hjr : 0 ≤ jc_s p N T I J K C ∧ jc_s p N T I J K C < p := ⟨Int.emod_nonneg _ (by omega), Int.emod_lt_of_pos _ hp1⟩
      refine wp_h (w_s s) rfl ?_
      refine wp_b rfl (by omega) (fun c2 => ?_) (fun c2 => ?_)
      · refine wp_g rfl (by omega) ?_
        exact ih (C + 1) _ _ _ _ (by omega) (by omega) (Or.inr ⟨rfl, C, by omega, c2⟩)
      · refine wp_g rfl (by omega) ?_
        refine ih (C + 1) _ _ _ _ (by omega) (by omega) (Or.inl ⟨rfl, fun q hq => ?_⟩)
        by_cases e9 : q = C
        · rw [e9]; exact Decidable.of_not_not c2
        · exact hz q (by omega)
    · refine wp_b rfl (by omega) (fun _ => ?_) (fun c => absurd e c)
      refine wp_g rfl (by omega) ?_
      exact ih (C + 1) _ _ _ _ (by omega) (by omega) (Or.inr ⟨rfl, hnz⟩)
/-- isJacobi(i, j, k) -/
theorem d_isJacobi (ht : tt_ok p N T) (hs : st_m p N T s) {i j k : Int} {I J K : Nat} (hi : i = I) (hj : j = J) (hk : k = K) (hI : I < N) (hJ : J < N) (hK : K < N)
    (h1 : nn_nm p N (jc_s p N T I J K) = 0 → Q (some (.inl 1)) (w_s s)) (h0 : nn_nm p N (jc_s p N T I J K) ≠ 0 → Q (some (.inl 0)) (w_s s)) : pj_ci X m_Mo_isJacobi [.inr 0, .inl i, .inl j, .inl k] (w_s s) Q := by
  have hp1 := (nn_p_pos ht.1).1
  have hz := np_num0 (N := N) hp1 (x := jc_s p N T I J K) (fun c => ⟨Int.emod_nonneg _ (by omega), Int.emod_lt_of_pos _ hp1⟩)
  refine wp_g rfl (by omega) ?_
  exact d_jb_out ht hs hi hj hk hI hJ hK (fun h => h1 (hz.mpr h)) (fun ⟨c, hc, hn⟩ => h0 (fun z => hn (hz.mp z c hc))) N 0 _ _ _ _ (by omega) (by omega) (Or.inl ⟨rfl, fun c hc => by omega⟩)
def an_jf (p : Int) (N : Nat) (T : Nat → Nat → Nat → Int) (z : Int) : Prop := (∃ I J K : Nat, I < J ∧ J < K ∧ K < N ∧ nn_nm p N (jc_s p N T I J K) ≠ 0 ∧ jf_d p N T I J K ∧ z = 100 * I + 10 * J + K) ∨ (jf_d p N T N 0 0 ∧ z = -9)
theorem d_jf_in (ht : tt_ok p N T) (hs : st_m p N T s) {I J : Nat} {i j : Int} (hIJ : I < J) (hJ : J < N) (hi : i = I) (hj : j = J)
    (h1 : ∀ z, an_jf p N T z → Q (some (.inl z)) (w_s0 s))
    (h0 : ∀ k : pj_V, jf_d p N T I J N → pj_WP X m_Mo_jacobiFailure 73 [.inr 0, .inl i, .inl j, k] [] (w_s0 s) Q) :
    ∀ (m K : Nat) (k : Int), K + m = N → k = K → J < K → jf_d p N T I J K → pj_WP X m_Mo_jacobiFailure 35 [.inr 0, .inl i, .inl j, .inl k] [] (w_s0 s) Q := by
  have hN := ht.2.2.1
  have h1' : s (Int.toNat 1) = (N : Int) := hs.2.1
  intro m
  induction m with
  | zero =>
    intro K k hK hk hJK hd
    refine wp_b rfl (by omega) (fun c => ?_) (fun c => absurd c (by omega))
    rw [show K = N by omega] at hd
    exact h0 _ hd
  | succ m ih =>
    intro K k hK hk hJK hd
    refine wp_b rfl (by omega) (fun c => absurd c (by omega)) (fun c => ?_)
    refine wp_c rfl (by omega) [0, 1] (d_isJacobi ht hs (I := I) (J := J) (K := K) hi hj hk (by omega) hJ (by omega) (fun e => ?_) (fun e => ?_)) rfl rfl rfl rfl
    · refine wp_h (w_s0 s) rfl ?_
      refine wp_b rfl (by omega) (fun _ => ?_) (fun c => absurd c (by omega))
      refine wp_g rfl (by omega) ?_
      refine ih (K + 1) _ (by omega) (by omega) (by omega) (fun a b d g1 g2 g3 g4 => ?_)
      by_cases h : a = I ∧ b = J ∧ d = K
      · obtain ⟨rfl, rfl, rfl⟩ := h
        exact e
      · exact hd a b d g1 g2 g3 (by omega)
    · refine wp_h (w_s0 s) rfl ?_
      refine wp_b rfl (by omega) (fun c => absurd rfl c) (fun _ => ?_)
      refine wp_r rfl (by omega) (h1 _ (Or.inl ⟨I, J, K, hIJ, hJK, by omega, e, hd, ?_⟩))
      rw [hi, hj, hk]
theorem d_jf_mid (ht : tt_ok p N T) (hs : st_m p N T s) {I : Nat} {i : Int} (hI : I < N) (hi : i = I)
    (h1 : ∀ z, an_jf p N T z → Q (some (.inl z)) (w_s0 s))
    (h0 : ∀ j k : pj_V, jf_d p N T I N 0 → pj_WP X m_Mo_jacobiFailure 79 [.inr 0, .inl i, j, k] [] (w_s0 s) Q) :
    ∀ (m J : Nat) (j : Int) (d : pj_V), J + m = N → j = J → I < J → jf_d p N T I J 0 → pj_WP X m_Mo_jacobiFailure 21 [.inr 0, .inl i, .inl j, d] [] (w_s0 s) Q := by
  have hN := ht.2.2.1
  have h1' : s (Int.toNat 1) = (N : Int) := hs.2.1
  intro m
  induction m with
  | zero =>
    intro J j d hJ hj hIJ hd
    refine wp_b rfl (by omega) (fun c => ?_) (fun c => absurd c (by omega))
    rw [show J = N by omega] at hd
    exact h0 _ _ hd
  | succ m ih =>
    intro J j d hJ hj hIJ hd
    refine wp_b rfl (by omega) (fun c => absurd c (by omega)) (fun c => ?_)
    refine wp_g rfl (by omega) ?_
    refine d_jf_in ht hs hIJ (by omega) hi hj h1 (fun k hd' => ?_) (N - (J + 1)) (J + 1) _ (by omega) (by omega) (by omega) (jf_eq hd (fun a b c _ _ _ h => by omega))
    refine wp_g rfl (by omega) ?_
    exact ih (J + 1) _ _ (by omega) (by omega) (by omega) (jf_eq hd' (fun a b c _ _ _ h => by omega))
theorem d_jf_out (ht : tt_ok p N T) (hs : st_m p N T s) (h1 : ∀ z, an_jf p N T z → Q (some (.inl z)) (w_s0 s)) :
    ∀ (m I : Nat) (i : Int) (d1 d2 : pj_V), I + m = N → i = I → jf_d p N T I 0 0 → pj_WP X m_Mo_jacobiFailure 7 [.inr 0, .inl i, d1, d2] [] (w_s0 s) Q := by
  have hN := ht.2.2.1
  have h1' : s (Int.toNat 1) = (N : Int) := hs.2.1
  intro m
  induction m with
  | zero =>
    intro I i d1 d2 hI hi hd
    refine wp_b rfl (by omega) (fun c => ?_) (fun c => absurd c (by omega))
    rw [show I = N by omega] at hd
    exact wp_r rfl (by omega) (h1 _ (Or.inr ⟨hd, rfl⟩))
  | succ m ih =>
    intro I i d1 d2 hI hi hd
    refine wp_b rfl (by omega) (fun c => absurd c (by omega)) (fun c => ?_)
    refine wp_g rfl (by omega) ?_
    refine d_jf_mid ht hs (by omega) hi h1 (fun j k hd' => ?_) (N - (I + 1)) (I + 1) _ _ (by omega) (by omega) (by omega) (jf_eq hd (fun a b c _ _ _ h => by omega))
    refine wp_g rfl (by omega) ?_
    exact ih (I + 1) _ _ _ (by omega) (by omega) (jf_eq hd' (fun a b c _ _ _ h => by omega))
/-- jacobiFailure() -/
theorem d_jacobiFailure (ht : tt_ok p N T) (hs : st_m p N T s) (h1 : ∀ z, an_jf p N T z → Q (some (.inl z)) (w_s0 s)) : pj_ci X m_Mo_jacobiFailure [.inr 0] (w_s0 s) Q := by
  refine wp_g rfl (by omega) ?_
  exact d_jf_out ht hs h1 N 0 _ _ _ (by omega) (by omega) (fun i j k _ _ _ h => absurd h (by omega))
theorem d_un_loop {h : Nat → Int} {d : Int} {D : Nat} (hd : d = D) (hD : D ≤ 5)
    (hQ : ∀ (s' : Nat → Int), (∀ k, k < 127 → s' k = h (127 * D + k)) → Q (some (.inl d)) (w_h0 s' h d)) :
    ∀ (m K : Nat) (s' : Nat → Int) (k : Int), K + m = 127 → k = K → (∀ k, k < K → s' k = h (127 * D + k)) → pj_WP X m_Mo_undo 27 [.inr 0, .inl k] [] (w_h0 s' h d) Q := by
  intro m
  induction m with
  | zero =>
    intro K s' k hK hk hh
    refine wp_b rfl (by omega) (fun c => ?_) (fun c => absurd c (by omega))
    exact wp_r rfl (by omega) (hQ s' (fun q hq => hh q (by omega)))
  | succ m ih =>
    intro K s' k hK hk hh
    have e1 : k.toNat = K := by omega
    have e2 : (127 * d + k).toNat = 127 * D + K := by omega
    refine wp_b rfl (by omega) (fun c => absurd c (by omega)) (fun c => ?_)
    refine wp_g rfl (by omega) ?_
    rw [e1, e2]
    refine ih (K + 1) _ _ (by omega) (by omega) (fun q hq => ?_)
    unfold pj_up
    by_cases e : q = K
    · rw [if_pos e, e]
    · rw [if_neg e]
      exact hh q (by omega)
/-- undo() -/
theorem d_undo {h : Nat → Int} {d : Int} {D : Nat} (hd : d = D) (hD : D ≤ 6)
    (h0 : D = 0 → Q (some (.inl (-2))) (w_h0 s h d)) (h1 : ∀ (E : Nat) (s' : Nat → Int), D = E + 1 → (∀ k, k < 127 → s' k = h (127 * E + k)) → Q (some (.inl (E : Int))) (w_h0 s' h (E : Int))) : pj_ci X m_Mo_undo [.inr 0] (w_h0 s h d) Q := by
  refine wp_b rfl (by omega) (fun c => ?_) (fun c => ?_)
  · have e : d - 1 = ((D - 1 : Nat) : Int) := by omega
    refine wp_g rfl (by omega) ?_
    refine d_un_loop (D := D - 1) e (by omega) (fun s' hs' => ?_) 127 0 _ _ (by omega) (by omega) (fun k hk => by omega)
    have h9 := h1 (D - 1) s' (by omega) hs'
    rw [← e] at h9
    exact h9
  · exact wp_r rfl (by omega) (h0 (by omega))
theorem d_sv_loop2 {sl0 sv : Nat → Int} {z : Int} {Z : Nat} (h1 : s 1 = (N : Int)) (hz : z = Z) (hZ : Z < 2)
    (hQ : ∀ (sl : Nat → Int), (∀ q, sl q = if 127 * Z ≤ q ∧ q < 127 * Z + 127 then s (q - 127 * Z) else sl0 q) → Q (some (.inl (N : Int))) (w_w0 s sl (pj_up sv Z 1))) :
    ∀ (m K : Nat) (sl : Nat → Int) (k : Int), K + m = 127 → k = K → (∀ q, sl q = if 127 * Z ≤ q ∧ q < 127 * Z + K then s (q - 127 * Z) else sl0 q) → pj_WP X m_Mo_save 18 [.inr 0, .inl z, .inl k] [] (w_w0 s sl sv) Q := by
  intro m
  induction m with
  | zero =>
    intro K sl k hK hk hh
    have h1' : s (Int.toNat 1) = (N : Int) := h1
    refine wp_b rfl (by omega) (fun c => ?_) (fun c => absurd c (by omega))
    refine wp_r rfl (by omega) ?_
    rw [show K = 127 by omega] at hh
    rw [h1', show z.toNat = Z by omega]
    exact hQ sl hh
  | succ m ih =>
    intro K sl k hK hk hh
    have e1 : k.toNat = K := by omega
    have e2 : (127 * z + k).toNat = 127 * Z + K := by omega
    refine wp_b rfl (by omega) (fun c => absurd c (by omega)) (fun c => ?_)
    refine wp_g rfl (by omega) ?_
    rw [e1, e2]
    refine ih (K + 1) _ _ (by omega) (by omega) (fun q => ?_)
    unfold pj_up
    by_cases e : q = 127 * Z + K
    · rw [if_pos e, if_pos (by omega), show q - 127 * Z = K by omega]
    · rw [if_neg e, hh q]
      by_cases e3 : 127 * Z ≤ q ∧ q < 127 * Z + K
      · rw [if_pos e3, if_pos (by omega)]
      · rw [if_neg e3, if_neg (by omega)]
/-- save(slot) -/
theorem d_save {sl sv : Nat → Int} {z : Int} (s1 : s 1 = (N : Int)) (hz : pj_rg z)
    (h0 : ¬ (0 ≤ z ∧ z ≤ 1) → Q (some (.inl (-1))) (w_w0 s sl sv)) (h1 : ∀ (Z : Nat) (sl' : Nat → Int), z = Z → Z < 2 → (∀ q, sl' q = if 127 * Z ≤ q ∧ q < 127 * Z + 127 then s (q - 127 * Z) else sl q) → Q (some (.inl (N : Int))) (w_w0 s sl' (pj_up sv Z 1))) : pj_ci X m_Mo_save [.inr 0, .inl z] (w_w0 s sl sv) Q := by
  refine wp_c rfl (by omega) [] (d_in hz (by unfold pj_rg; omega) (by unfold pj_rg; omega) (fun a b => ?_) (fun a => ?_)) rfl rfl rfl rfl
  · refine wp_b rfl (by omega) (fun _ => ?_) (fun c => absurd c (by omega))
    refine wp_g rfl (by omega) ?_
    exact d_sv_loop2 (Z := z.toNat) (sl0 := sl) s1 (by omega) (by omega) (fun sl' h => h1 z.toNat sl' (by omega) (by omega) h) 127 0 _ _ (by omega) (by omega) (fun q => by rw [if_neg (by omega)])
  · refine wp_b rfl (by omega) (fun c => absurd rfl c) (fun _ => ?_)
    exact wp_r rfl (by omega) (h0 (by omega))
theorem d_rs_loop {sl sv : Nat → Int} {z d : Int} {Z : Nat} (hz : z = Z) (hZ : Z < 2)
    (hQ : ∀ (s' : Nat → Int), (∀ k, k < 127 → s' k = sl (127 * Z + k)) → Q (some (.inl (s' 1))) (w_u0 s' sl sv 0)) :
    ∀ (m K : Nat) (s' : Nat → Int) (k : Int), K + m = 127 → k = K → (∀ k, k < K → s' k = sl (127 * Z + k)) → pj_WP X m_Mo_restore 30 [.inr 0, .inl z, .inl k] [] (w_u0 s' sl sv d) Q := by
  intro m
  induction m with
  | zero =>
    intro K s' k hK hk hh
    refine wp_b rfl (by omega) (fun c => ?_) (fun c => absurd c (by omega))
    exact wp_r rfl (by omega) (hQ s' (fun q hq => hh q (by omega)))
  | succ m ih =>
    intro K s' k hK hk hh
    have e1 : k.toNat = K := by omega
    have e2 : (127 * z + k).toNat = 127 * Z + K := by omega
    refine wp_b rfl (by omega) (fun c => absurd c (by omega)) (fun c => ?_)
    refine wp_g rfl (by omega) ?_
    rw [e1, e2]
    refine ih (K + 1) _ _ (by omega) (by omega) (fun q hq => ?_)
    unfold pj_up
    by_cases e : q = K
    · rw [if_pos e, e]
    · rw [if_neg e]
      exact hh q (by omega)
/-- restore(slot) -/
theorem d_restore {sl sv : Nat → Int} {z d : Int} (hz : pj_rg z) (hsv : ∀ k, k < 2 → sv k = 0 ∨ sv k = 1)
    (h0 : ¬ (0 ≤ z ∧ z ≤ 1) → Q (some (.inl (-1))) (w_u0 s sl sv d)) (h1 : ∀ Z : Nat, z = Z → Z < 2 → sv Z = 0 → Q (some (.inl (-2))) (w_u0 s sl sv d))
    (h2 : ∀ (Z : Nat) (s' : Nat → Int), z = Z → Z < 2 → sv Z = 1 → (∀ k, k < 127 → s' k = sl (127 * Z + k)) → Q (some (.inl (s' 1))) (w_u0 s' sl sv 0)) : pj_ci X m_Mo_restore [.inr 0, .inl z] (w_u0 s sl sv d) Q := by
  refine wp_c rfl (by omega) [] (d_in hz (by unfold pj_rg; omega) (by unfold pj_rg; omega) (fun a b => ?_) (fun a => ?_)) rfl rfl rfl rfl
  · refine wp_b rfl (by omega) (fun _ => ?_) (fun c => absurd c (by omega))
    have hv := hsv z.toNat (by omega)
    refine wp_b rfl (by omega) (fun c => ?_) (fun c => ?_)
    · refine wp_g rfl (by omega) ?_
      exact d_rs_loop (Z := z.toNat) (by omega) (by omega) (fun s' h => h2 z.toNat s' (by omega) (by omega) (hv.resolve_left c) h) 127 0 _ _ (by omega) (by omega) (fun q hq => by omega)
    · exact wp_r rfl (by omega) (h1 z.toNat (by omega) (by omega) (Decidable.of_not_not c))
  · refine wp_b rfl (by omega) (fun c => absurd rfl c) (fun _ => ?_)
    exact wp_r rfl (by omega) (h0 (by omega))
end MPUB
