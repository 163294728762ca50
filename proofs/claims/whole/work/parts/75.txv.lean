/-! THE MODEL's text: readValue, held against the class's reader -/
section TXV
variable {X : pj_X} {Q : pj_Q} {p : Int} {N : Nat} {s : Nat → Int}
/-- behind a term: fuel, value, position -/
def rv_k (f : Nat → Int) (L : Nat) (p : Int) (N m : Nat) (v : Int) (P : Nat) : Int × Nat :=
  if sc_c f L P = 59 then (v, sc_p f L P + 1) else if sc_c f L P = 45 then rv_l f L p N m (-1) v (sc_p f L P + 1) else if sc_c f L P = 43 then rv_l f L p N m 1 v (sc_p f L P + 1) else (-1, sc_p f L P)
theorem sc_t_y {f : Nat → Int} {L P : Nat} {w : Int} (h : sc_c f L P = w) : sc_t f L w P = (true, sc_p f L P + 1) := if_pos h
theorem sc_t_n {f : Nat → Int} {L P : Nat} {w : Int} (h : sc_c f L P ≠ w) : sc_t f L w P = (false, sc_p f L P) := if_neg h
theorem rv_k_eq {f : Nat → Int} {L N m P : Nat} {v : Int} (hP : P ≤ L) :
    (if (sc_t f L 59 P).1 = true then (v, (sc_t f L 59 P).2) else if (sc_t f L 45 (sc_t f L 59 P).2).1 = true then rv_l f L p N m (-1) v (sc_t f L 45 (sc_t f L 59 P).2).2 else if (sc_t f L 43 (sc_t f L 45 (sc_t f L 59 P).2).2).1 = true then rv_l f L p N m 1 v (sc_t f L 43 (sc_t f L 45 (sc_t f L 59 P).2).2).2 else (-1, (sc_t f L 43 (sc_t f L 45 (sc_t f L 59 P).2).2).2)) = rv_k f L p N m v P := by
  unfold rv_k
  by_cases h1 : sc_c f L P = 59
  · rw [sc_t_y h1, if_pos rfl, if_pos h1]
  · rw [sc_t_n h1, if_neg Bool.false_ne_true, if_neg h1]
    show (if (sc_t f L 45 (sc_p f L P)).1 = true then rv_l f L p N m (-1) v (sc_t f L 45 (sc_p f L P)).2 else if (sc_t f L 43 (sc_t f L 45 (sc_p f L P)).2).1 = true then rv_l f L p N m 1 v (sc_t f L 43 (sc_t f L 45 (sc_p f L P)).2).2 else (-1, (sc_t f L 43 (sc_t f L 45 (sc_p f L P)).2).2)) = _
    rw [sc_t_idem f hP]
    by_cases h2 : sc_c f L P = 45
    · rw [sc_t_y h2, if_pos rfl, if_pos h2]
    · rw [sc_t_n h2, if_neg Bool.false_ne_true, if_neg h2]
      show (if (sc_t f L 43 (sc_p f L P)).1 = true then rv_l f L p N m 1 v (sc_t f L 43 (sc_p f L P)).2 else (-1, (sc_t f L 43 (sc_p f L P)).2)) = _
      rw [sc_t_idem f hP]
      by_cases h3 : sc_c f L P = 43
      · rw [sc_t_y h3, if_pos rfl, if_pos h3]
      · rw [sc_t_n h3, if_neg Bool.false_ne_true, if_neg h3]
theorem rv_step {f : Nat → Int} {L N m P : Nat} {sg v : Int} (hP : P ≤ L) : rv_l f L p N (m + 1) sg v P = if (tm_E f L p P).1 = true then (if 0 ≤ (tm_G f L p N P).1 then rv_k f L p N m (nn_plus p N v (p ^ (tm_G f L p N P).1.toNat) (tm_f f L p sg P)) (tm_G f L p N P).2 else (-1, (tm_G f L p N P).2)) else (-1, (tm_E f L p P).2) := by
  have d1 := sc_d_le (f := f) (b := p - 1) (show (0 : Int) ≤ 1 by omega) hP
  have b1 := sc_t_le (f := f) (show (0 : Int) ≤ 101 by omega) d1
  have g1 := sc_d_le (f := f) (b := (N : Int) - 1) (show (0 : Int) ≤ 0 by omega) b1
  rw [← rv_k_eq (f := f) (L := L) (N := N) (m := m) (p := p) (P := (tm_G f L p N P).2) g1]
  rfl
theorem tm_mono {f : Nat → Int} {L N P : Nat} (hP : P ≤ L) : P ≤ (tm_G f L p N P).2 := by
  have d1 := sc_d_le (f := f) (b := p - 1) (show (0 : Int) ≤ 1 by omega) hP
  have b1 := sc_t_le (f := f) (show (0 : Int) ≤ 101 by omega) d1
  have m1 : P ≤ (sc_d f L 1 (p - 1) P).2 := by
    have := (sc_p_rg f hP).1
    unfold sc_d
    split
    · show P ≤ sc_p f L P + 1; omega
    · exact this
  have m2 : (sc_d f L 1 (p - 1) P).2 ≤ (tm_E f L p P).2 := by
    have := (sc_p_rg f d1).1
    unfold tm_E sc_t
    split
    · show _ ≤ sc_p f L _ + 1; omega
    · exact this
  have m3 : (tm_E f L p P).2 ≤ (tm_G f L p N P).2 := by
    have := (sc_p_rg f b1).1
    unfold tm_G sc_d
    split
    · show _ ≤ sc_p f L _ + 1
      unfold tm_E
      omega
    · exact this
  omega
/-- the digit that a term adds -/
theorem tm_num (hp : nn_p p) {row : Nat → Int} {e : Nat} {x : Int} (hr : ∀ k, k < N → 0 ≤ row k ∧ row k < p) (he : e < N) : nn_plus p N (nn_nm p N row) (p ^ e) x = nn_nm p N (fun k => if k = e then (row e + x) % p else row k) := by
  have hp1 := (nn_p_pos hp).1
  refine nn_nm_congr N (fun k hk => ?_)
  rw [nn_dg_nm hp1 N hr k hk, nn_dg_pw hp]
  unfold ln_e
  by_cases h : k = e
  · rw [if_pos h, if_pos h, Int.mul_one, h]
  · rw [if_neg h, if_neg h, Int.mul_zero, Int.add_zero, Int.emod_eq_of_lt (hr k hk).1 (hr k hk).2]
/-- the row of a value in given -/
def gr_w (p : Int) (N TO : Nat) (gv : Nat → Int) : Prop := (∀ k, k < N → 0 ≤ gv (TO + k) ∧ gv (TO + k) < p) ∧ ∀ k, N ≤ k → k < 5 → gv (TO + k) = 0
theorem gr_up2 (hp : nn_p p) {TO e : Nat} {x : Int} {gv : Nat → Int} (h : gr_w p N TO gv) (he : e < N) (hN : N ≤ 5) : gr_w p N TO (pj_up gv (TO + e) ((gv (TO + e) + x) % p)) ∧ (fun k => pj_up gv (TO + e) ((gv (TO + e) + x) % p) (TO + k)) = (fun k => if k = e then (gv (TO + e) + x) % p else gv (TO + k)) := by
  have hp1 := (nn_p_pos hp).1
  have e1 : ∀ k, pj_up gv (TO + e) ((gv (TO + e) + x) % p) (TO + k) = if k = e then (gv (TO + e) + x) % p else gv (TO + k) := fun k => by
    unfold pj_up
    by_cases h2 : k = e
    · rw [if_pos (by omega), if_pos h2]
    · rw [if_neg (by omega), if_neg h2]
  refine ⟨⟨fun k hk => ?_, fun k hk hk5 => ?_⟩, funext e1⟩
  · rw [e1 k]
    by_cases h2 : k = e
    · rw [if_pos h2]
      exact ⟨Int.emod_nonneg _ (by omega), Int.emod_lt_of_pos _ hp1⟩
    · rw [if_neg h2]
      exact h.1 k hk
  · rw [e1 k, if_neg (by omega)]
    exact h.2 k hk hk5
set_option maxHeartbeats 2000000 in
theorem d_rvm_loop {f gv0 : Nat → Int} {L TO : Nat} {l to ng : Int} {R0 : Int × Nat} (hp : nn_p p) (h1N : 1 ≤ N) (hN : N ≤ 5) (s0 : s 0 = p) (s1 : s 1 = (N : Int)) (hf : ∀ k, k < 120 → 0 ≤ f k ∧ f k ≤ 255) (hL : L ≤ 120) (hl : l = L) (hto : to = TO) (hTO : TO ≤ 120)
    (hQ1 : ∀ (P2 : Nat) (gv : Nat → Int), P2 ≤ L → gr_w p N TO gv → (∀ q, (q < TO ∨ TO + 5 ≤ q) → gv q = gv0 q) → R0 = (if sc_c f L P2 = 59 then (nn_nm p N (fun k => gv (TO + k)), sc_p f L P2 + 1) else (-1, sc_p f L P2)) → Q none (w_rt s l (P2 : Int) (-9) f gv))
    (hQ0 : ∀ (E P2 : Nat) (gv : Nat → Int), E ≤ L → P2 ≤ L → R0 = (-1, E) → Q none (w_rt s l (P2 : Int) (E : Int) f gv)) :
    ∀ (m P : Nat) (q : Int) (gv : Nat → Int) (d3 : pj_V), q = P → P ≤ L → L ≤ P + m → gr_w p N TO gv → (∀ q, (q < TO ∨ TO + 5 ≤ q) → gv q = gv0 q) → rv_k f L p N m (nn_nm p N (fun k => gv (TO + k))) P = R0 → pj_WP X m_Mo_readValue 55 [.inr 0, .inl to, .inl ng, d3] [] (w_rt s l q (-9) f gv) Q := by
  obtain ⟨hp1, hp2, hp3⟩ := nn_p_pos hp
  intro m
  induction m with
  | zero =>
    intro P q gv d3 hq hP hm hgw hout hR
    have hPL : P = L := by omega
    have hpp := sc_p_rg f hP
    have hc : sc_c f L P = -1 := by unfold sc_c; rw [if_neg (by omega)]
    refine wp_c rfl (by omega) [0] (d_fine ?_) rfl rfl rfl rfl
    refine wp_h (w_rt s l q (-9) f gv) rfl ?_
    refine wp_b rfl (by omega) (fun c => absurd c (by omega)) (fun _ => ?_)
    refine wp_c rfl (by omega) [0, 2] (d_current hf hL hl hP hq ?_) rfl rfl rfl rfl
    refine wp_h (w_rt s l ((sc_p f L P : Nat) : Int) (-9) f gv) rfl ?_
    refine wp_b rfl (by omega) (fun c => absurd c (by omega)) (fun _ => ?_)
    refine wp_c rfl (by omega) [0, 2] (d_current hf hL hl hpp.2 rfl ?_) rfl rfl rfl rfl
    rw [sc_c_idem f hP, sc_p_idem f hP]
    refine wp_h (w_rt s l ((sc_p f L P : Nat) : Int) (-9) f gv) rfl ?_
    refine wp_b rfl (by omega) (fun _ => ?_) (fun c => absurd hc (by omega))
    refine wp_r rfl (by omega) (hQ1 (sc_p f L P) gv hpp.2 hgw hout ?_)
    rw [← hR, sc_c_idem f hP, sc_p_idem f hP]
    unfold rv_k
    rw [if_neg (show ¬ sc_c f L P = 59 by omega), if_neg (show ¬ sc_c f L P = 45 by omega), if_neg (show ¬ sc_c f L P = 43 by omega), if_neg (show ¬ sc_c f L P = 59 by omega)]
  | succ m ih =>
    intro P q gv d3 hq hP hm hgw hout hR
    have hpp := sc_p_rg f hP
    have hr := sc_c_rg hf (P := P) hL
    -- a sign was there
    have sign : ∀ (sg : Int), (sg = 1 ∨ sg = -1) → sc_p f L P < L → rv_l f L p N (m + 1) sg (nn_nm p N (fun k => gv (TO + k))) (sc_p f L P + 1) = R0 → ∀ d3 : pj_V, pj_WP X m_Mo_readValue 99 [.inr 0, .inl to, .inl ng, d3] [.inl sg, .inl to, .inr 0] (w_rt s l (((sc_p f L P : Nat) : Int) + 1) (-9) f gv) Q := by
      intro sg hsg hlt hR2 d3
      have hP1 : sc_p f L P + 1 ≤ L := by omega
      rw [rv_step hP1] at hR2
      have mono := tm_mono (p := p) (N := N) (f := f) hP1
      refine wp_c rfl (by omega) [0, 1, 2, 3] (d_readTerm (P := sc_p f L P + 1) (TO := TO) hp h1N hN s0 s1 hf hL hl hP1 (by omega) hto hTO hsg hgw.1 (fun hE hG => ?_) (fun E P' hE hP' hor => ?_)) rfl rfl rfl rfl
      · have d1 := sc_d_le (f := f) (b := p - 1) (show (0 : Int) ≤ 1 by omega) hP1
        have b1 := sc_t_le (f := f) (show (0 : Int) ≤ 101 by omega) d1
        have g1 : (tm_G f L p N (sc_p f L P + 1)).2 ≤ L := sc_d_le (f := f) (b := (N : Int) - 1) (show (0 : Int) ≤ 0 by omega) b1
        have g2 : (tm_G f L p N (sc_p f L P + 1)).1 = -1 ∨ (0 ≤ (tm_G f L p N (sc_p f L P + 1)).1 ∧ (tm_G f L p N (sc_p f L P + 1)).1 ≤ (N : Int) - 1) := sc_d_rg (f := f) (L := L) (P := (tm_E f L p (sc_p f L P + 1)).2) (b := (N : Int) - 1) (show (0 : Int) ≤ 0 by omega)
        have heN : (tm_G f L p N (sc_p f L P + 1)).1.toNat < N := by omega
        obtain ⟨u1, u2⟩ := gr_up2 hp (x := tm_f f L p sg (sc_p f L P + 1)) hgw heN hN
        rw [if_pos hE, if_pos hG, tm_num hp hgw.1 heN, ← u2] at hR2
        refine wp_h (w_rt s l (((tm_G f L p N (sc_p f L P + 1)).2 : Nat) : Int) (-9) f (pj_up gv (TO + (tm_G f L p N (sc_p f L P + 1)).1.toNat) ((gv (TO + (tm_G f L p N (sc_p f L P + 1)).1.toNat) + tm_f f L p sg (sc_p f L P + 1)) % p))) rfl ?_
        refine wp_g rfl (by omega) ?_
        refine ih _ _ _ _ rfl g1 (by omega) u1 (fun q hq => ?_) hR2
        unfold pj_up
        rw [if_neg (by omega)]
        exact hout q hq
      · refine wp_h (w_rt s l (P' : Int) (E : Int) f gv) rfl ?_
        refine wp_g rfl (by omega) ?_
        refine wp_c rfl (by omega) [0] (d_unfine (by omega) ?_) rfl rfl rfl rfl
        refine wp_h (w_rt s l (P' : Int) (E : Int) f gv) rfl ?_
        refine wp_b rfl (by omega) (fun _ => ?_) (fun c => absurd rfl c)
        refine wp_r rfl (by omega) (hQ0 E P' gv hE hP' ?_)
        rcases hor with ⟨e1, e2⟩ | ⟨e1, e2, e3⟩
        · rw [if_neg (by rw [e1]; exact Bool.false_ne_true)] at hR2
          rw [← hR2, e2]
        · rw [if_pos e1, if_neg (by omega)] at hR2
          rw [← hR2, e3]
    refine wp_c rfl (by omega) [0] (d_fine ?_) rfl rfl rfl rfl
    refine wp_h (w_rt s l q (-9) f gv) rfl ?_
    refine wp_b rfl (by omega) (fun c => absurd c (by omega)) (fun _ => ?_)
    refine wp_c rfl (by omega) [0, 2] (d_current hf hL hl hP hq ?_) rfl rfl rfl rfl
    refine wp_h (w_rt s l ((sc_p f L P : Nat) : Int) (-9) f gv) rfl ?_
    unfold rv_k at hR
    refine wp_b rfl (by omega) (fun c => ?_) (fun c => ?_)
    · -- plus
      rw [if_neg (show ¬ sc_c f L P = 59 by omega), if_neg (show ¬ sc_c f L P = 45 by omega), if_pos c] at hR
      refine wp_c rfl (by omega) [0, 2] (d_acc1 hf hL hl hpp.2 rfl ?_) rfl rfl rfl rfl
      rw [sc_c_idem f hP, sc_p_idem f hP]
      refine wp_h (w_rt s l (((sc_p f L P : Nat) : Int) + 1) (-9) f gv) rfl ?_
      refine wp_b rfl (by omega) (fun _ => ?_) (fun c2 => absurd c (by omega))
      refine wp_g rfl (by omega) ?_
      exact sign 1 (Or.inl rfl) (sc_c_end (by omega)) hR _
    · refine wp_c rfl (by omega) [0, 2] (d_current hf hL hl hpp.2 rfl ?_) rfl rfl rfl rfl
      rw [sc_c_idem f hP, sc_p_idem f hP]
      refine wp_h (w_rt s l ((sc_p f L P : Nat) : Int) (-9) f gv) rfl ?_
      refine wp_b rfl (by omega) (fun c2 => ?_) (fun c2 => ?_)
      · -- neither
        refine wp_r rfl (by omega) (hQ1 (sc_p f L P) gv hpp.2 hgw hout ?_)
        rw [if_neg c2, if_neg c] at hR
        rw [← hR, sc_c_idem f hP, sc_p_idem f hP]
      · -- minus
        have c3 : sc_c f L P = 45 := Decidable.of_not_not c2
        rw [if_neg (show ¬ sc_c f L P = 59 by omega), if_pos c3] at hR
        refine wp_c rfl (by omega) [0, 2] (d_acc1 hf hL hl hpp.2 rfl ?_) rfl rfl rfl rfl
        rw [sc_c_idem f hP, sc_p_idem f hP]
        refine wp_h (w_rt s l (((sc_p f L P : Nat) : Int) + 1) (-9) f gv) rfl ?_
        refine wp_b rfl (by omega) (fun c4 => absurd c3 (by omega)) (fun _ => ?_)
        refine wp_g rfl (by omega) ?_
        exact sign (-1) (Or.inr rfl) (sc_c_end (by omega)) hR _
theorem rv_v_eq {f : Nat → Int} {L N P : Nat} (hP : P ≤ L) : rv_v f L p N P = if sc_c f L P = 48 then (if sc_c f L (sc_p f L P + 1) = 59 then (0, sc_p f L (sc_p f L P + 1) + 1) else (-1, sc_p f L (sc_p f L P + 1))) else if sc_c f L P = 45 then rv_l f L p N 120 (-1) 0 (sc_p f L P + 1) else rv_l f L p N 120 1 0 (sc_p f L P) := by
  unfold rv_v
  by_cases h1 : sc_c f L P = 48
  · rw [sc_t_y h1, if_pos rfl, if_pos h1]
    show (if (sc_t f L 59 (sc_p f L P + 1)).1 = true then ((0 : Int), (sc_t f L 59 (sc_p f L P + 1)).2) else (-1, (sc_t f L 59 (sc_p f L P + 1)).2)) = _
    by_cases h2 : sc_c f L (sc_p f L P + 1) = 59
    · rw [sc_t_y h2, if_pos rfl, if_pos h2]
    · rw [sc_t_n h2, if_neg Bool.false_ne_true, if_neg h2]
  · rw [sc_t_n h1, if_neg Bool.false_ne_true, if_neg h1]
    show (if (sc_t f L 45 (sc_p f L P)).1 = true then rv_l f L p N 120 (-1) 0 (sc_t f L 45 (sc_p f L P)).2 else rv_l f L p N 120 1 0 (sc_t f L 45 (sc_p f L P)).2) = _
    rw [sc_t_idem f hP]
    by_cases h2 : sc_c f L P = 45
    · rw [sc_t_y h2, if_pos rfl, if_pos h2]
    · rw [sc_t_n h2, if_neg Bool.false_ne_true, if_neg h2]
set_option maxHeartbeats 2000000 in
/-- readValue(to), which begins where all is fine -/
theorem d_readValue {f gv : Nat → Int} {L TO P : Nat} {l q to : Int} (hp : nn_p p) (h1N : 1 ≤ N) (hN : N ≤ 5) (s0 : s 0 = p) (s1 : s 1 = (N : Int)) (hf : ∀ k, k < 120 → 0 ≤ f k ∧ f k ≤ 255) (hL : L ≤ 120) (hl : l = L) (hto : to = TO) (hTO : TO ≤ 120) (hP1 : 1 ≤ P) (hP : P ≤ L) (hq : q = P) (hz : ∀ k, k < 5 → gv (TO + k) = 0)
    (hQ1 : ∀ (P2 : Nat) (gv' : Nat → Int), P2 ≤ L → gr_w p N TO gv' → (∀ q, (q < TO ∨ TO + 5 ≤ q) → gv' q = gv q) → rv_v f L p N P = (if sc_c f L P2 = 59 then (nn_nm p N (fun k => gv' (TO + k)), sc_p f L P2 + 1) else (-1, sc_p f L P2)) → Q none (w_rt s l (P2 : Int) (-9) f gv'))
    (hQ0 : ∀ (E P2 : Nat) (gv' : Nat → Int), E ≤ L → P2 ≤ L → rv_v f L p N P = (-1, E) → Q none (w_rt s l (P2 : Int) (E : Int) f gv')) : pj_ci X m_Mo_readValue [.inr 0, .inl to] (w_rt s l q (-9) f gv) Q := by
  obtain ⟨hp1, hp2, hp3⟩ := nn_p_pos hp
  have hpp := sc_p_rg f hP
  have hr := sc_c_rg hf (P := P) hL
  have hgw : gr_w p N TO gv := ⟨fun k hk => by rw [hz k (by omega)]; omega, fun k _ hk => hz k hk⟩
  have hn0 : nn_nm p N (fun k => gv (TO + k)) = 0 := nn_nm_eq0 N (fun k hk => hz k (by omega))
  have hv := rv_v_eq (p := p) (N := N) (f := f) hP
  -- the first term
  have first : ∀ (sg ng : Int) (P1 : Nat) (q1 : Int), (sg = 1 ∨ sg = -1) → q1 = P1 → P1 ≤ L → 1 ≤ P1 → rv_l f L p N 120 sg (nn_nm p N (fun k => gv (TO + k))) P1 = rv_v f L p N P → pj_WP X m_Mo_readValue 52 [.inr 0, .inl to, .inl ng, v_u] [.inl sg, .inl to, .inr 0] (w_rt s l q1 (-9) f gv) Q := by
    intro sg ng P1 q1 hsg hq1 hPL hP1' hR2
    rw [show (120 : Nat) = 119 + 1 from rfl, rv_step hPL] at hR2
    have mono := tm_mono (p := p) (N := N) (f := f) hPL
    refine wp_c rfl (by omega) [0, 1, 2, 3] (d_readTerm (P := P1) (TO := TO) hp h1N hN s0 s1 hf hL hl hPL hq1 hto hTO hsg hgw.1 (fun hE hG => ?_) (fun E P' hE hP' hor => ?_)) rfl rfl rfl rfl
    · have d1 := sc_d_le (f := f) (b := p - 1) (show (0 : Int) ≤ 1 by omega) hPL
      have b1 := sc_t_le (f := f) (show (0 : Int) ≤ 101 by omega) d1
      have g1 : (tm_G f L p N P1).2 ≤ L := sc_d_le (f := f) (b := (N : Int) - 1) (show (0 : Int) ≤ 0 by omega) b1
      have g2 : (tm_G f L p N P1).1 = -1 ∨ (0 ≤ (tm_G f L p N P1).1 ∧ (tm_G f L p N P1).1 ≤ (N : Int) - 1) := sc_d_rg (f := f) (L := L) (P := (tm_E f L p P1).2) (b := (N : Int) - 1) (show (0 : Int) ≤ 0 by omega)
      have heN : (tm_G f L p N P1).1.toNat < N := by omega
      obtain ⟨u1, u2⟩ := gr_up2 hp (x := tm_f f L p sg P1) hgw heN hN
      rw [if_pos hE, if_pos hG, tm_num hp hgw.1 heN, ← u2] at hR2
      refine wp_h (w_rt s l (((tm_G f L p N P1).2 : Nat) : Int) (-9) f (pj_up gv (TO + (tm_G f L p N P1).1.toNat) ((gv (TO + (tm_G f L p N P1).1.toNat) + tm_f f L p sg P1) % p))) rfl ?_
      refine d_rvm_loop (gv0 := gv) (TO := TO) hp h1N hN s0 s1 hf hL hl hto hTO hQ1 hQ0 119 _ _ _ _ rfl g1 (by omega) u1 (fun q hq => ?_) hR2
      unfold pj_up
      rw [if_neg (by omega)]
    · refine wp_h (w_rt s l (P' : Int) (E : Int) f gv) rfl ?_
      refine wp_g rfl (by omega) ?_
      refine wp_c rfl (by omega) [0] (d_unfine (by omega) ?_) rfl rfl rfl rfl
      refine wp_h (w_rt s l (P' : Int) (E : Int) f gv) rfl ?_
      refine wp_b rfl (by omega) (fun _ => ?_) (fun c => absurd rfl c)
      refine wp_r rfl (by omega) (hQ0 E P' gv hE hP' ?_)
      rcases hor with ⟨e1, e2⟩ | ⟨e1, e2, e3⟩
      · rw [if_neg (by rw [e1]; exact Bool.false_ne_true)] at hR2
        rw [← hR2, e2]
      · rw [if_pos e1, if_neg (by omega)] at hR2
        rw [← hR2, e3]
  refine wp_c rfl (by omega) [0, 2] (d_current hf hL hl hP hq ?_) rfl rfl rfl rfl
  refine wp_h (w_rt s l ((sc_p f L P : Nat) : Int) (-9) f gv) rfl ?_
  refine wp_b rfl (by omega) (fun c => ?_) (fun c => ?_)
  · rw [if_neg c] at hv
    refine wp_c rfl (by omega) [0, 2] (d_current hf hL hl hpp.2 rfl ?_) rfl rfl rfl rfl
    rw [sc_c_idem f hP, sc_p_idem f hP]
    refine wp_h (w_rt s l ((sc_p f L P : Nat) : Int) (-9) f gv) rfl ?_
    refine wp_b rfl (by omega) (fun c2 => ?_) (fun c2 => ?_)
    · rw [if_neg c2] at hv
      refine wp_b rfl (by omega) (fun _ => ?_) (fun c => absurd rfl c)
      refine wp_b rfl (by omega) (fun _ => ?_) (fun c => absurd rfl c)
      refine wp_g rfl (by omega) ?_
      exact first 1 _ (sc_p f L P) _ (Or.inl rfl) rfl hpp.2 (by omega) (by rw [hn0]; exact hv.symm)
    · have c3 : sc_c f L P = 45 := Decidable.of_not_not c2
      rw [if_pos c3] at hv
      have hlt := sc_c_end (f := f) (L := L) (P := P) (by omega)
      refine wp_b rfl (by omega) (fun c => absurd c (by omega)) (fun _ => ?_)
      refine wp_c rfl (by omega) [0, 2] (d_acc1 hf hL hl hpp.2 rfl ?_) rfl rfl rfl rfl
      rw [sc_c_idem f hP, sc_p_idem f hP]
      refine wp_h (w_rt s l (((sc_p f L P : Nat) : Int) + 1) (-9) f gv) rfl ?_
      refine wp_b rfl (by omega) (fun c => absurd c (by omega)) (fun _ => ?_)
      refine wp_g rfl (by omega) ?_
      exact first (-1) _ (sc_p f L P + 1) _ (Or.inr rfl) (by omega) (by omega) (by omega) (by rw [hn0]; exact hv.symm)
  · have c3 : sc_c f L P = 48 := Decidable.of_not_not c
    rw [if_pos c3] at hv
    have hlt := sc_c_end (f := f) (L := L) (P := P) (by omega)
    refine wp_c rfl (by omega) [0, 2] (d_acc1 hf hL hl hpp.2 rfl ?_) rfl rfl rfl rfl
    rw [sc_c_idem f hP, sc_p_idem f hP]
    refine wp_r rfl (by omega) ?_
    have h9 := hQ1 (sc_p f L P + 1) gv (by omega) hgw (fun _ _ => rfl) (by rw [hn0]; exact hv)
    rw [Int.natCast_add] at h9
    exact h9
end TXV
