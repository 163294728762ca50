/-! THE MODEL's text: readItem -/
abbrev o_ri (l q e : Int) : pj_C := .inr (8, [v_u, .inr 1, v_u, v_u, v_u, v_u, .inr 2, .inl l, v_u, v_u, v_u, .inl q, .inl e, .inr 3, .inr 4, v_u, v_u, v_u, v_u, v_u, v_u, v_u, v_u, v_u, v_u, v_u, v_u, v_u])
abbrev w_ri (s : Nat → Int) (l q e : Int) (f ig gv : Nat → Int) : List pj_C := [o_ri l q e, c_A 127 s, c_A 120 f, c_Z 25 ig, c_A 125 gv]
section TXI
variable {X : pj_X} {Q : pj_Q} {p : Int} {N : Nat} {s : Nat → Int}
theorem ri_a_1 {f D : Nat → Int} {L G P : Nat} (h : sc_c f L P ≠ 91) : ri_a f L p N G D P = (false, sc_p f L P, G, D) := by
  unfold ri_a
  rw [sc_t_n h, if_neg Bool.false_ne_true]
theorem ri_a_2 {f D : Nat → Int} {L G P : Nat} (h : sc_c f L P = 91) (h2 : (sc_d f L 0 ((N : Int) - 1) (sc_p f L P + 1)).1 < 0) : ri_a f L p N G D P = (false, (sc_d f L 0 ((N : Int) - 1) (sc_p f L P + 1)).2, G, D) := by
  unfold ri_a
  rw [sc_t_y h, if_pos rfl]
  exact if_neg (show ¬ 0 ≤ (sc_d f L 0 ((N : Int) - 1) (sc_p f L P + 1)).1 by omega)
theorem ri_a_3 {f D : Nat → Int} {L G P : Nat} (h : sc_c f L P = 91) (h2 : 0 ≤ (sc_d f L 0 ((N : Int) - 1) (sc_p f L P + 1)).1) (h3 : sc_c f L (sc_d f L 0 ((N : Int) - 1) (sc_p f L P + 1)).2 ≠ 44) : ri_a f L p N G D P = (false, sc_p f L (sc_d f L 0 ((N : Int) - 1) (sc_p f L P + 1)).2, G, D) := by
  unfold ri_a
  rw [sc_t_y h, if_pos rfl]
  show (if 0 ≤ (sc_d f L 0 ((N : Int) - 1) (sc_p f L P + 1)).1 then _ else _) = _
  rw [if_pos h2]
  show (if (sc_t f L 44 (sc_d f L 0 ((N : Int) - 1) (sc_p f L P + 1)).2).1 = true then _ else (false, (sc_t f L 44 (sc_d f L 0 ((N : Int) - 1) (sc_p f L P + 1)).2).2, G, D)) = _
  rw [sc_t_n h3]
  exact if_neg Bool.false_ne_true
theorem ri_a_4 {f D : Nat → Int} {L G P : Nat} (h : sc_c f L P = 91) (h2 : 0 ≤ (sc_d f L 0 ((N : Int) - 1) (sc_p f L P + 1)).1) (h3 : sc_c f L (sc_d f L 0 ((N : Int) - 1) (sc_p f L P + 1)).2 = 44) : ri_a f L p N G D P = ri_b f L p N (sc_d f L 0 ((N : Int) - 1) (sc_p f L P + 1)).1.toNat G D (sc_p f L (sc_d f L 0 ((N : Int) - 1) (sc_p f L P + 1)).2 + 1) (Classical.propDecidable _) := by
  unfold ri_a
  rw [sc_t_y h, if_pos rfl]
  show (if 0 ≤ (sc_d f L 0 ((N : Int) - 1) (sc_p f L P + 1)).1 then _ else _) = _
  rw [if_pos h2]
  show (if (sc_t f L 44 (sc_d f L 0 ((N : Int) - 1) (sc_p f L P + 1)).2).1 = true then ri_b f L p N (sc_d f L 0 ((N : Int) - 1) (sc_p f L P + 1)).1.toNat G D (sc_t f L 44 (sc_d f L 0 ((N : Int) - 1) (sc_p f L P + 1)).2).2 (Classical.propDecidable _) else _) = _
  rw [sc_t_y h3]
  exact if_pos rfl
theorem ri_b_0 {f D : Nat → Int} {L I G P : Nat} {dd : Decidable (ri_ok f L N I G P)} (h : ¬ ri_ok f L N I G P) : ri_b f L p N I G D P dd = (false, sc_p f L P, G, D) := if_neg h
theorem ri_b_1 {f D : Nat → Int} {L I G P : Nat} {dd : Decidable (ri_ok f L N I G P)} (h : ri_ok f L N I G P) : ri_b f L p N I G D P dd = ((ri_c f L p N I (sc_c f L P - 48).toNat D (sc_p f L P + 1)).1, (ri_c f L p N I (sc_c f L P - 48).toNat D (sc_p f L P + 1)).2.1, G ||| 2 ^ bt_p I (sc_c f L P - 48).toNat, (ri_c f L p N I (sc_c f L P - 48).toNat D (sc_p f L P + 1)).2.2) := if_pos h
theorem ri_c_1 {f D : Nat → Int} {L I J P : Nat} (h : sc_c f L P ≠ 93) : ri_c f L p N I J D P = (false, sc_p f L P, D) := by
  unfold ri_c
  rw [sc_t_n h, if_neg Bool.false_ne_true]
theorem ri_c_2 {f D : Nat → Int} {L I J P : Nat} (h : sc_c f L P = 93) (h2 : sc_c f L (sc_p f L P + 1) ≠ 61) : ri_c f L p N I J D P = (false, sc_p f L (sc_p f L P + 1), D) := by
  unfold ri_c
  rw [sc_t_y h, if_pos rfl]
  show (if (sc_t f L 61 (sc_p f L P + 1)).1 = true then _ else (false, (sc_t f L 61 (sc_p f L P + 1)).2, D)) = _
  rw [sc_t_n h2]
  exact if_neg Bool.false_ne_true
theorem ri_c_3 {f D : Nat → Int} {L I J P : Nat} (h : sc_c f L P = 93) (h2 : sc_c f L (sc_p f L P + 1) = 61) : ri_c f L p N I J D P = if 0 ≤ (rv_v f L p N (sc_p f L (sc_p f L P + 1) + 1)).1 then (true, (rv_v f L p N (sc_p f L (sc_p f L P + 1) + 1)).2, ri_s p N I J (rv_v f L p N (sc_p f L (sc_p f L P + 1) + 1)).1 D) else (false, (rv_v f L p N (sc_p f L (sc_p f L P + 1) + 1)).2, D) := by
  unfold ri_c
  rw [sc_t_y h, if_pos rfl]
  show (if (sc_t f L 61 (sc_p f L P + 1)).1 = true then (if 0 ≤ (rv_v f L p N (sc_t f L 61 (sc_p f L P + 1)).2).1 then (true, (rv_v f L p N (sc_t f L 61 (sc_p f L P + 1)).2).2, ri_s p N I J (rv_v f L p N (sc_t f L 61 (sc_p f L P + 1)).2).1 D) else (false, (rv_v f L p N (sc_t f L 61 (sc_p f L P + 1)).2).2, D)) else (false, (sc_t f L 61 (sc_p f L P + 1)).2, D)) = _
  rw [sc_t_y h2]
  exact if_pos rfl
theorem tm_monoE {f : Nat → Int} {L P : Nat} (hP : P ≤ L) : P ≤ (tm_E f L p P).2 := by
  have d1 := sc_d_le (f := f) (b := p - 1) (show (0 : Int) ≤ 1 by omega) hP
  have m1 : P ≤ (sc_d f L 1 (p - 1) P).2 := by
    have := (sc_p_rg f hP).1
    unfold sc_d
    split
    · show P ≤ sc_p f L P + 1; omega
    · exact this
  have m2 : (sc_d f L 1 (p - 1) P).2 ≤ (tm_E f L p P).2 := by
    have := (sc_p_rg f d1).1
    unfold tm_E sc_t
    split
    · show _ ≤ sc_p f L _ + 1; omega
    · exact this
  omega
theorem rv_l_mono {f : Nat → Int} {L : Nat} : ∀ (m : Nat) (sg v : Int) (P : Nat), P ≤ L → P ≤ (rv_l f L p N m sg v P).2
  | 0, _, _, P, _ => Nat.le_refl P
  | m + 1, sg, v, P, hP => by
    rw [rv_step hP]
    have d1 := sc_d_le (f := f) (b := p - 1) (show (0 : Int) ≤ 1 by omega) hP
    have b1 := sc_t_le (f := f) (show (0 : Int) ≤ 101 by omega) d1
    have g1 : (tm_G f L p N P).2 ≤ L := sc_d_le (f := f) (b := (N : Int) - 1) (show (0 : Int) ≤ 0 by omega) b1
    have hG := tm_mono (p := p) (N := N) (f := f) hP
    have hE := tm_monoE (p := p) (f := f) hP
    have hpp := sc_p_rg f g1
    split
    · split
      · unfold rv_k
        split
        · show P ≤ sc_p f L _ + 1; omega
        · split
          · next h =>
            have hlt := sc_c_end (f := f) (L := L) (P := (tm_G f L p N P).2) (by omega)
            have := rv_l_mono (f := f) (L := L) m (-1) (nn_plus p N v (p ^ (tm_G f L p N P).1.toNat) (tm_f f L p sg P)) (sc_p f L (tm_G f L p N P).2 + 1) (by omega)
            omega
          · split
            · next h =>
              have hlt := sc_c_end (f := f) (L := L) (P := (tm_G f L p N P).2) (by omega)
              have := rv_l_mono (f := f) (L := L) m 1 (nn_plus p N v (p ^ (tm_G f L p N P).1.toNat) (tm_f f L p sg P)) (sc_p f L (tm_G f L p N P).2 + 1) (by omega)
              omega
            · show P ≤ sc_p f L _; omega
      · exact hG
    · exact hE
theorem rv_v_mono {f : Nat → Int} {L P : Nat} (hP : P ≤ L) : P ≤ (rv_v f L p N P).2 := by
  rw [rv_v_eq hP]
  have hpp := sc_p_rg f hP
  split
  · next h =>
    have hlt := sc_c_end (f := f) (L := L) (P := P) (by omega)
    have h2 := sc_p_rg f (show sc_p f L P + 1 ≤ L by omega)
    split
    · show P ≤ sc_p f L _ + 1; omega
    · show P ≤ sc_p f L _; omega
  · split
    · next h =>
      have hlt := sc_c_end (f := f) (L := L) (P := P) (by omega)
      have := rv_l_mono (p := p) (N := N) (f := f) (L := L) 120 (-1) 0 (sc_p f L P + 1) (by omega)
      omega
    · have := rv_l_mono (p := p) (N := N) (f := f) (L := L) 120 1 0 (sc_p f L P) hpp.2
      omega
section BAD
variable {f ig gv : Nat → Int} {L E : Nat} {l : Int}
theorem d_bad5 (hf : ∀ k, k < 120 → 0 ≤ f k ∧ f k ≤ 255) (hL : L ≤ 120) (hl : l = L) (hE : E ≤ L) (hQ : ∀ P' : Nat, P' ≤ L → Q none (w_ri s l (P' : Int) (E : Int) f ig gv)) {P : Nat} {q : Int} (hP : P ≤ L) (hq : q = P) (d1 d2 d3 d4 : pj_V) : pj_WP X m_Mo_readItem 200 [.inr 0, d1, d2, d3, d4] [.inr 0, .inr 0] (w_ri s l q (E : Int) f ig gv) Q := by
  have hr := sc_c_rg hf (P := P) hL
  have hpp := sc_p_rg f hP
  refine wp_c rfl (by omega) [0, 2] (d_current hf hL hl hP hq ?_) rfl rfl rfl rfl
  refine wp_h (w_ri s l ((sc_p f L P : Nat) : Int) (E : Int) f ig gv) rfl ?_
  refine wp_b rfl (by omega) (fun c => ?_) (fun c => ?_)
  · refine wp_c rfl (by omega) [0, 2] (d_accN hf hL hl hpp.2 rfl (by omega) ?_) rfl rfl rfl rfl
    rw [sc_p_idem f hP]
    exact wp_r rfl (by omega) (hQ _ hpp.2)
  · refine wp_c rfl (by omega) [0, 2] (d_accN hf hL hl hpp.2 rfl (by omega) ?_) rfl rfl rfl rfl
    rw [sc_p_idem f hP]
    exact wp_r rfl (by omega) (hQ _ hpp.2)
theorem d_bad4 (hf : ∀ k, k < 120 → 0 ≤ f k ∧ f k ≤ 255) (hL : L ≤ 120) (hl : l = L) (hE : E ≤ L) (hQ : ∀ P' : Nat, P' ≤ L → Q none (w_ri s l (P' : Int) (E : Int) f ig gv)) {P : Nat} {q : Int} (hP : P ≤ L) (hq : q = P) (d1 d2 d3 d4 : pj_V) : pj_WP X m_Mo_readItem 150 [.inr 0, d1, d2, d3, d4] [.inr 0, .inr 0] (w_ri s l q (E : Int) f ig gv) Q := by
  have hr := sc_c_rg hf (P := P) hL
  have hpp := sc_p_rg f hP
  refine wp_c rfl (by omega) [0, 2] (d_current hf hL hl hP hq ?_) rfl rfl rfl rfl
  refine wp_h (w_ri s l ((sc_p f L P : Nat) : Int) (E : Int) f ig gv) rfl ?_
  have fin : ∀ z : Int, pj_WP X m_Mo_readItem 166 [.inr 0, d1, d2, d3, d4] [.inl z] (w_ri s l ((sc_p f L P : Nat) : Int) (E : Int) f ig gv) Q := fun z => by
    refine wp_c rfl (by omega) [0] (d_unfine (by omega) ?_) rfl rfl rfl rfl
    refine wp_h (w_ri s l ((sc_p f L P : Nat) : Int) (E : Int) f ig gv) rfl ?_
    refine wp_b rfl (by omega) (fun _ => ?_) (fun c => absurd rfl c)
    refine wp_g rfl (by omega) ?_
    exact d_bad5 hf hL hl hE hQ hpp.2 rfl _ _ _ _
  refine wp_b rfl (by omega) (fun c => ?_) (fun c => ?_)
  · refine wp_c rfl (by omega) [0, 2] (d_accN hf hL hl hpp.2 rfl (by omega) ?_) rfl rfl rfl rfl
    rw [sc_p_idem f hP]
    exact fin _
  · refine wp_c rfl (by omega) [0, 2] (d_accN hf hL hl hpp.2 rfl (by omega) ?_) rfl rfl rfl rfl
    rw [sc_p_idem f hP]
    exact fin _
theorem d_bad3 (hf : ∀ k, k < 120 → 0 ≤ f k ∧ f k ≤ 255) (hL : L ≤ 120) (hl : l = L) (hE : E ≤ L) (hQ : ∀ P' : Nat, P' ≤ L → Q none (w_ri s l (P' : Int) (E : Int) f ig gv)) {P : Nat} {q : Int} (hP : P ≤ L) (hq : q = P) (d1 d2 d3 d4 : pj_V) : pj_WP X m_Mo_readItem 131 [.inr 0, d1, d2, d3, d4] [.inr 0, .inr 0] (w_ri s l q (E : Int) f ig gv) Q := by
  have hr := sc_c_rg hf (P := P) hL
  have hpp := sc_p_rg f hP
  refine wp_c rfl (by omega) [0, 2] (d_current hf hL hl hP hq ?_) rfl rfl rfl rfl
  refine wp_h (w_ri s l ((sc_p f L P : Nat) : Int) (E : Int) f ig gv) rfl ?_
  refine wp_b rfl (by omega) (fun c => ?_) (fun c => ?_)
  · refine wp_c rfl (by omega) [0, 2] (d_accN hf hL hl hpp.2 rfl (by omega) ?_) rfl rfl rfl rfl
    rw [sc_p_idem f hP]
    refine wp_h (w_ri s l ((sc_p f L P : Nat) : Int) (E : Int) f ig gv) rfl ?_
    refine wp_g rfl (by omega) ?_
    exact d_bad4 hf hL hl hE hQ hpp.2 rfl _ _ _ _
  · refine wp_c rfl (by omega) [0, 2] (d_accN hf hL hl hpp.2 rfl (by omega) ?_) rfl rfl rfl rfl
    rw [sc_p_idem f hP]
    refine wp_h (w_ri s l ((sc_p f L P : Nat) : Int) (E : Int) f ig gv) rfl ?_
    refine wp_g rfl (by omega) ?_
    exact d_bad4 hf hL hl hE hQ hpp.2 rfl _ _ _ _
theorem d_bad2 (hf : ∀ k, k < 120 → 0 ≤ f k ∧ f k ≤ 255) (hL : L ≤ 120) (hl : l = L) (hE : E ≤ L) (hQ : ∀ P' : Nat, P' ≤ L → Q none (w_ri s l (P' : Int) (E : Int) f ig gv)) {P : Nat} {q : Int} (hP : P ≤ L) (hq : q = P) (d1 d2 d3 d4 : pj_V) : pj_WP X m_Mo_readItem 44 [.inr 0, d1, d2, d3, d4] [.inr 0] (w_ri s l q (E : Int) f ig gv) Q := by
  have hr := sc_c_rg hf (P := P) hL
  have hpp := sc_p_rg f hP
  refine wp_c rfl (by omega) [0, 2] (d_current hf hL hl hP hq ?_) rfl rfl rfl rfl
  refine wp_h (w_ri s l ((sc_p f L P : Nat) : Int) (E : Int) f ig gv) rfl ?_
  refine wp_c rfl (by omega) [0] (d_unfine (by omega) ?_) rfl rfl rfl rfl
  refine wp_h (w_ri s l ((sc_p f L P : Nat) : Int) (E : Int) f ig gv) rfl ?_
  refine wp_b rfl (by omega) (fun _ => ?_) (fun c => absurd rfl c)
  refine wp_b rfl (by omega) (fun _ => ?_) (fun c => absurd rfl c)
  refine wp_c rfl (by omega) [0, 2] (d_accN hf hL hl hpp.2 rfl (by omega) ?_) rfl rfl rfl rfl
  rw [sc_p_idem f hP]
  refine wp_h (w_ri s l ((sc_p f L P : Nat) : Int) (E : Int) f ig gv) rfl ?_
  refine wp_g rfl (by omega) ?_
  exact d_bad3 hf hL hl hE hQ hpp.2 rfl _ _ _ _
theorem d_bad1 (hf : ∀ k, k < 120 → 0 ≤ f k ∧ f k ≤ 255) (hL : L ≤ 120) (hl : l = L) (hE : E ≤ L) (hQ : ∀ P' : Nat, P' ≤ L → Q none (w_ri s l (P' : Int) (E : Int) f ig gv)) {P : Nat} {q : Int} (hP : P ≤ L) (hq : q = P) (d1 d2 d3 d4 : pj_V) : pj_WP X m_Mo_readItem 26 [.inr 0, d1, d2, d3, d4] [.inr 0, .inr 0] (w_ri s l q (E : Int) f ig gv) Q := by
  have hr := sc_c_rg hf (P := P) hL
  have hpp := sc_p_rg f hP
  refine wp_c rfl (by omega) [0, 2] (d_current hf hL hl hP hq ?_) rfl rfl rfl rfl
  refine wp_h (w_ri s l ((sc_p f L P : Nat) : Int) (E : Int) f ig gv) rfl ?_
  refine wp_b rfl (by omega) (fun c => ?_) (fun c => ?_)
  · refine wp_c rfl (by omega) [0, 2] (d_accN hf hL hl hpp.2 rfl (by omega) ?_) rfl rfl rfl rfl
    rw [sc_p_idem f hP]
    refine wp_h (w_ri s l ((sc_p f L P : Nat) : Int) (E : Int) f ig gv) rfl ?_
    refine wp_g rfl (by omega) ?_
    exact d_bad2 hf hL hl hE hQ hpp.2 rfl _ _ _ _
  · refine wp_c rfl (by omega) [0, 2] (d_accN hf hL hl hpp.2 rfl (by omega) ?_) rfl rfl rfl rfl
    rw [sc_p_idem f hP]
    refine wp_h (w_ri s l ((sc_p f L P : Nat) : Int) (E : Int) f ig gv) rfl ?_
    refine wp_g rfl (by omega) ?_
    exact d_bad2 hf hL hl hE hQ hpp.2 rfl _ _ _ _
theorem d_bad0 (h1N : 1 ≤ N) (hN : N ≤ 5) (s1 : s 1 = (N : Int)) (hf : ∀ k, k < 120 → 0 ≤ f k ∧ f k ≤ 255) (hL : L ≤ 120) (hl : l = L) (hE : E ≤ L) (hQ : ∀ P' : Nat, P' ≤ L → Q none (w_ri s l (P' : Int) (E : Int) f ig gv)) {P : Nat} {q : Int} (hP : P ≤ L) (hq : q = P) (d1 d2 d3 d4 : pj_V) : pj_WP X m_Mo_readItem 20 [.inr 0, d1, d2, d3, d4] [.inr 0] (w_ri s l q (E : Int) f ig gv) Q := by
  refine wp_c rfl (by omega) [0, 1, 2] (d_indexN h1N hN s1 hf hL hl hP hq (by omega) (fun z P' z1 z2 hP' => ?_)) rfl rfl rfl rfl
  refine wp_h (w_ri s l (P' : Int) (E : Int) f ig gv) rfl ?_
  refine wp_g rfl (by omega) ?_
  exact d_bad1 hf hL hl hE hQ hP' rfl _ _ _ _
end BAD
/-- isGiven and the class's bits -/
def ig_ok (G : Nat) (ig : Nat → Int) : Prop := (∀ k, k < 25 → ig k = 0 ∨ ig k = 1) ∧ ∀ I J, I < 5 → J < 5 → (G.testBit (bt_p I J) = false ↔ ig (5 * I + J) = 0 ∧ ig (5 * J + I) = 0)
set_option maxHeartbeats 4000000 in
/-- readItem(), which begins where all is fine -/
theorem d_readItem {f ig gv D : Nat → Int} {L P G : Nat} {l q : Int} (hp : nn_p p) (h1N : 1 ≤ N) (hN : N ≤ 5) (s0 : s 0 = p) (s1 : s 1 = (N : Int)) (hf : ∀ k, k < 120 → 0 ≤ f k ∧ f k ≤ 255) (hL : L ≤ 120) (hl : l = L) (hP : P ≤ L) (hq : q = P) (hig : ig_ok G ig) (hz : ∀ I J k, I < 5 → J < 5 → k < 5 → ig (5 * I + J) = 0 → gv (5 * (5 * I + J) + k) = 0)
    (hQ1 : ∀ (P2 I J : Nat) (gv' : Nat → Int), P2 ≤ L → P + 1 ≤ P2 → I < N → J < N → I ≠ J → G.testBit (bt_p I J) = false → gr_w p N (5 * (5 * I + J)) gv' → (∀ q, (q < 5 * (5 * I + J) ∨ 5 * (5 * I + J) + 5 ≤ q) → gv' q = gv q) → ri_a f L p N G D P = (true, P2, G ||| 2 ^ bt_p I J, ri_s p N I J (nn_nm p N (fun k => gv' (5 * (5 * I + J) + k))) D) → Q none (w_ri s l (P2 : Int) (-9) f (pj_up ig (5 * I + J) 1) gv'))
    (hQ0 : ∀ (E P2 : Nat) (ig' gv' : Nat → Int), E ≤ L → P2 ≤ L → (ri_a f L p N G D P).1 = false → (ri_a f L p N G D P).2.1 = E → Q none (w_ri s l (P2 : Int) (E : Int) f ig' gv')) : pj_ci X m_Mo_readItem [.inr 0] (w_ri s l q (-9) f ig gv) Q := by
  obtain ⟨hp1, hp2, hp3⟩ := nn_p_pos hp
  have s1' : s (Int.toNat 1) = (N : Int) := s1
  have hr := sc_c_rg hf (P := P) hL
  have hpp := sc_p_rg f hP
  have bad : ∀ {x : Bool × Nat × Nat × (Nat → Int)} {E : Nat}, ri_a f L p N G D P = x → x.1 = false → x.2.1 = E → E ≤ L → ∀ (ig' gv' : Nat → Int) (P' : Nat), P' ≤ L → Q none (w_ri s l (P' : Int) (E : Int) f ig' gv') := fun h1 h2 h3 h4 ig' gv' P' hP' => hQ0 _ P' ig' gv' h4 hP' (by rw [h1]; exact h2) (by rw [h1]; exact h3)
  refine wp_c rfl (by omega) [0, 2] (d_current hf hL hl hP hq ?_) rfl rfl rfl rfl
  refine wp_h (w_ri s l ((sc_p f L P : Nat) : Int) (-9) f ig gv) rfl ?_
  refine wp_b rfl (by omega) (fun c => ?_) (fun c => ?_)
  · refine wp_c rfl (by omega) [0, 2] (d_acc0 hf hL hl hpp.2 rfl ?_) rfl rfl rfl rfl
    rw [sc_p_idem f hP]
    refine wp_h (w_ri s l ((sc_p f L P : Nat) : Int) ((sc_p f L P : Nat) : Int) f ig gv) rfl ?_
    refine wp_g rfl (by omega) ?_
    exact d_bad0 h1N hN s1 hf hL hl hpp.2 (bad (ri_a_1 c) rfl rfl hpp.2 ig gv) hpp.2 rfl _ _ _ _
  have c1 : sc_c f L P = 91 := Decidable.of_not_not c
  have hlt := sc_c_end (f := f) (L := L) (P := P) (by omega)
  have hPa : sc_p f L P + 1 ≤ L := by omega
  have a1 := sc_d_le (f := f) (b := (N : Int) - 1) (show (0 : Int) ≤ 0 by omega) hPa
  have a2 := sc_d_rg (f := f) (L := L) (P := sc_p f L P + 1) (b := (N : Int) - 1) (show (0 : Int) ≤ 0 by omega)
  have a3 : sc_p f L P + 1 ≤ (sc_d f L 0 ((N : Int) - 1) (sc_p f L P + 1)).2 := by
    have := (sc_p_rg f hPa).1
    unfold sc_d
    split
    · show _ ≤ sc_p f L _ + 1; omega
    · exact this
  refine wp_c rfl (by omega) [0, 2] (d_acc1 hf hL hl hpp.2 rfl ?_) rfl rfl rfl rfl
  rw [sc_p_idem f hP]
  refine wp_h (w_ri s l (((sc_p f L P : Nat) : Int) + 1) (-9) f ig gv) rfl ?_
  refine wp_c rfl (by omega) [0, 1, 2] (d_index (P := sc_p f L P + 1) h1N hN s1 hf hL hl hPa (by omega) (fun hge => ?_) (fun z hneg z1 z2 => ?_)) rfl rfl rfl rfl
  rotate_left
  · refine wp_h (w_ri s l (((sc_d f L 0 ((N : Int) - 1) (sc_p f L P + 1)).2 : Nat) : Int) (((sc_d f L 0 ((N : Int) - 1) (sc_p f L P + 1)).2 : Nat) : Int) f ig gv) rfl ?_
    refine wp_g rfl (by omega) ?_
    exact d_bad1 hf hL hl a1 (bad (ri_a_2 c1 hneg) rfl rfl a1 ig gv) a1 rfl _ _ _ _
  have hr4 := fun h3 => ri_a_4 (p := p) (N := N) (G := G) (D := D) c1 hge h3
  have hr3 := fun h3 => ri_a_3 (p := p) (N := N) (G := G) (D := D) c1 hge h3
  revert hr4 hr3 a1 a2 a3 hge
  generalize sc_d f L 0 ((N : Int) - 1) (sc_p f L P + 1) = A
  intro a1 a2 a3 hge hr4 hr3
  have hAp := sc_p_rg f a1
  have hAr := sc_c_rg hf (P := A.2) hL
  have eI : A.1 = ((A.1.toNat : Nat) : Int) := by omega
  have hIN : A.1.toNat < N := by omega
  refine wp_h (w_ri s l ((A.2 : Nat) : Int) (-9) f ig gv) rfl ?_
  refine wp_c rfl (by omega) [0, 2] (d_current hf hL hl a1 rfl ?_) rfl rfl rfl rfl
  refine wp_h (w_ri s l ((sc_p f L A.2 : Nat) : Int) (-9) f ig gv) rfl ?_
  refine wp_b rfl (by omega) (fun c => ?_) (fun c => ?_)
  · refine wp_c rfl (by omega) [0, 2] (d_acc0 hf hL hl hAp.2 rfl ?_) rfl rfl rfl rfl
    rw [sc_p_idem f a1]
    refine wp_h (w_ri s l ((sc_p f L A.2 : Nat) : Int) ((sc_p f L A.2 : Nat) : Int) f ig gv) rfl ?_
    refine wp_g rfl (by omega) ?_
    exact d_bad2 hf hL hl hAp.2 (bad (hr3 c) rfl rfl hAp.2 ig gv) hAp.2 rfl _ _ _ _
  have c2 : sc_c f L A.2 = 44 := Decidable.of_not_not c
  have hri := hr4 c2
  have hlt2 := sc_c_end (f := f) (L := L) (P := A.2) (by omega)
  refine wp_c rfl (by omega) [0, 2] (d_acc1 hf hL hl hAp.2 rfl ?_) rfl rfl rfl rfl
  rw [sc_p_idem f a1]
  obtain ⟨B, eB⟩ : ∃ B : Nat, B = sc_p f L A.2 + 1 := ⟨_, rfl⟩
  rw [← eB] at hri
  have hB : B ≤ L := by omega
  rw [show ((sc_p f L A.2 : Nat) : Int) + 1 = (B : Int) by omega]
  have hBp := sc_p_rg f hB
  have hBr := sc_c_rg hf (P := B) hL
  refine wp_h (w_ri s l (B : Int) (-9) f ig gv) rfl ?_
  refine wp_c rfl (by omega) [0, 2] (d_current hf hL hl hB rfl ?_) rfl rfl rfl rfl
  refine wp_h (w_ri s l ((sc_p f L B : Nat) : Int) (-9) f ig gv) rfl ?_
  refine wp_c rfl (by omega) [0] (d_fine ?_) rfl rfl rfl rfl
  refine wp_h (w_ri s l ((sc_p f L B : Nat) : Int) (-9) f ig gv) rfl ?_
  refine wp_b rfl (by omega) (fun c => absurd c (by omega)) (fun _ => ?_)
  -- the second index isn't allowed
  have refuse : ¬ ri_ok f L N A.1.toNat G B → ∀ d3 : pj_V, pj_WP X m_Mo_readItem 121 [.inr 0, .inl A.1, .inl (sc_c f L B - 48), d3, v_u] [.inl 0, .inr 0] (w_ri s l ((sc_p f L B : Nat) : Int) (-9) f ig gv) Q := by
    intro hno d3
    refine wp_c rfl (by omega) [0, 2] (d_acc0 hf hL hl hBp.2 rfl ?_) rfl rfl rfl rfl
    rw [sc_p_idem f hB]
    refine wp_h (w_ri s l ((sc_p f L B : Nat) : Int) ((sc_p f L B : Nat) : Int) f ig gv) rfl ?_
    refine wp_g rfl (by omega) ?_
    exact d_bad3 hf hL hl hBp.2 (bad (hri.trans (ri_b_0 hno)) rfl rfl hBp.2 ig gv) hBp.2 rfl _ _ _ _
  refine wp_c rfl (by omega) [] (d_in (by unfold pj_rg; omega) (by unfold pj_rg; omega) (by rw [s1']; unfold pj_rg; omega) (fun a b => ?_) (fun a => ?_)) rfl rfl rfl rfl
  rotate_left
  · rw [s1'] at a
    refine wp_h (w_ri s l ((sc_p f L B : Nat) : Int) (-9) f ig gv) rfl ?_
    refine wp_b rfl (by omega) (fun _ => ?_) (fun c => absurd rfl c)
    refine wp_b rfl (by omega) (fun _ => ?_) (fun c => absurd rfl c)
    refine wp_g rfl (by omega) ?_
    exact refuse (fun z => by have := z.1; omega) _
  rw [s1'] at b
  refine wp_h (w_ri s l ((sc_p f L B : Nat) : Int) (-9) f ig gv) rfl ?_
  refine wp_b rfl (by omega) (fun c => absurd c (by omega)) (fun _ => ?_)
  refine wp_b rfl (by omega) (fun c => ?_) (fun hne => ?_)
  · refine wp_b rfl (by omega) (fun _ => ?_) (fun c => absurd rfl c)
    refine wp_g rfl (by omega) ?_
    exact refuse (fun z => z.2.1 (by omega)) _
  refine wp_b rfl (by omega) (fun c => absurd c (by omega)) (fun _ => ?_)
  obtain ⟨J, eJ⟩ : ∃ J : Nat, (J : Int) = sc_c f L B - 48 := ⟨(sc_c f L B - 48).toNat, by omega⟩
  have eJ2 : (sc_c f L B - 48).toNat = J := by omega
  have hJN : J < N := by omega
  obtain ⟨I, eI2⟩ : ∃ I : Nat, I = A.1.toNat := ⟨_, rfl⟩
  rw [← eI2] at hIN eI hri refuse
  have hIJ : I ≠ J := by omega
  have g1 : (5 * A.1 + (sc_c f L B - 48)).toNat = 5 * I + J := by omega
  have g2 : (5 * (sc_c f L B - 48) + A.1).toNat = 5 * J + I := by omega
  have b1 := hig.1 (5 * I + J) (by omega)
  have b2 := hig.1 (5 * J + I) (by omega)
  have b3 := hig.2 I J (by omega) (by omega)
  refine wp_b rfl (by rw [g1]; omega) (fun c => ?_) (fun c => ?_)
  · rw [g1] at c
    refine wp_g rfl (by omega) ?_
    exact refuse (fun z => by have h9 := z.2.2; rw [eJ2] at h9; exact c (b3.mp h9).1) _
  rw [g1] at c
  refine wp_b rfl (by rw [g2]; omega) (fun c3 => ?_) (fun c3 => ?_)
  · rw [g2] at c3
    refine wp_g rfl (by omega) ?_
    exact refuse (fun z => by have h9 := z.2.2; rw [eJ2] at h9; exact c3 (b3.mp h9).2) _
  rw [g2] at c3
  have hi0 : ig (5 * I + J) = 0 := Decidable.of_not_not c
  have hbit : G.testBit (bt_p I J) = false := b3.mpr ⟨Decidable.of_not_not c, Decidable.of_not_not c3⟩
  have hok : ri_ok f L N I G B := ⟨⟨by omega, by omega⟩, by omega, by rw [eJ2]; exact hbit⟩
  rw [ri_b_1 hok, eJ2] at hri
  have hlt3 := sc_c_end (f := f) (L := L) (P := B) (by omega)
  refine wp_c rfl (by omega) [0, 2] (d_acc1 hf hL hl hBp.2 rfl ?_) rfl rfl rfl rfl
  rw [sc_c_idem f hB, sc_p_idem f hB]
  obtain ⟨C, eC⟩ : ∃ C : Nat, C = sc_p f L B + 1 := ⟨_, rfl⟩
  rw [← eC] at hri
  have hC : C ≤ L := by omega
  rw [show ((sc_p f L B : Nat) : Int) + 1 = (C : Int) by omega, ← eJ]
  have hCp := sc_p_rg f hC
  have hCr := sc_c_rg hf (P := C) hL
  -- the bracket
  refine wp_h (w_ri s l (C : Int) (-9) f ig gv) rfl ?_
  refine wp_c rfl (by omega) [0, 2] (d_current hf hL hl hC rfl ?_) rfl rfl rfl rfl
  refine wp_h (w_ri s l ((sc_p f L C : Nat) : Int) (-9) f ig gv) rfl ?_
  refine wp_b rfl (by omega) (fun c => ?_) (fun c => ?_)
  · refine wp_c rfl (by omega) [0, 2] (d_acc0 hf hL hl hCp.2 rfl ?_) rfl rfl rfl rfl
    rw [sc_p_idem f hC]
    refine wp_h (w_ri s l ((sc_p f L C : Nat) : Int) ((sc_p f L C : Nat) : Int) f ig gv) rfl ?_
    refine wp_g rfl (by omega) ?_
    rw [ri_c_1 c] at hri
    exact d_bad4 hf hL hl hCp.2 (bad hri rfl rfl hCp.2 ig gv) hCp.2 rfl _ _ _ _
  have c4 : sc_c f L C = 93 := Decidable.of_not_not c
  have hlt4 := sc_c_end (f := f) (L := L) (P := C) (by omega)
  refine wp_c rfl (by omega) [0, 2] (d_acc1 hf hL hl hCp.2 rfl ?_) rfl rfl rfl rfl
  rw [sc_p_idem f hC]
  have hF0 : sc_p f L C + 1 ≤ L := by omega
  have hFp := sc_p_rg f hF0
  have hFr := sc_c_rg hf (P := sc_p f L C + 1) hL
  refine wp_h (w_ri s l (((sc_p f L C : Nat) : Int) + 1) (-9) f ig gv) rfl ?_
  refine wp_c rfl (by omega) [0, 2] (d_current (P := sc_p f L C + 1) hf hL hl hF0 (by omega) ?_) rfl rfl rfl rfl
  refine wp_h (w_ri s l ((sc_p f L (sc_p f L C + 1) : Nat) : Int) (-9) f ig gv) rfl ?_
  refine wp_b rfl (by omega) (fun c => ?_) (fun c => ?_)
  · refine wp_c rfl (by omega) [0, 2] (d_acc0 hf hL hl hFp.2 rfl ?_) rfl rfl rfl rfl
    rw [sc_p_idem f hF0]
    refine wp_h (w_ri s l ((sc_p f L (sc_p f L C + 1) : Nat) : Int) ((sc_p f L (sc_p f L C + 1) : Nat) : Int) f ig gv) rfl ?_
    refine wp_c rfl (by omega) [0] (d_unfine (by omega) ?_) rfl rfl rfl rfl
    refine wp_h (w_ri s l ((sc_p f L (sc_p f L C + 1) : Nat) : Int) ((sc_p f L (sc_p f L C + 1) : Nat) : Int) f ig gv) rfl ?_
    refine wp_b rfl (by omega) (fun _ => ?_) (fun c => absurd rfl c)
    refine wp_g rfl (by omega) ?_
    rw [ri_c_2 c4 c] at hri
    exact d_bad5 hf hL hl hFp.2 (bad hri rfl rfl hFp.2 ig gv) hFp.2 rfl _ _ _ _
  have c5 : sc_c f L (sc_p f L C + 1) = 61 := Decidable.of_not_not c
  have hlt5 := sc_c_end (f := f) (L := L) (P := sc_p f L C + 1) (by omega)
  rw [ri_c_3 c4 c5] at hri
  refine wp_c rfl (by omega) [0, 2] (d_acc1 hf hL hl hFp.2 rfl ?_) rfl rfl rfl rfl
  rw [sc_p_idem f hF0]
  obtain ⟨V, eV⟩ : ∃ V : Nat, V = sc_p f L (sc_p f L C + 1) + 1 := ⟨_, rfl⟩
  rw [← eV] at hri
  have hV : V ≤ L := by omega
  rw [show ((sc_p f L (sc_p f L C + 1) : Nat) : Int) + 1 = (V : Int) by omega]
  refine wp_h (w_ri s l (V : Int) (-9) f ig gv) rfl ?_
  refine wp_c rfl (by omega) [0] (d_fine ?_) rfl rfl rfl rfl
  refine wp_h (w_ri s l (V : Int) (-9) f ig gv) rfl ?_
  refine wp_b rfl (by omega) (fun c => absurd c (by omega)) (fun _ => ?_)
  have g3 : (5 * A.1 + (J : Int)).toNat = 5 * I + J := by omega
  have hvok := rv_v_ok (f := f) hp hN hV
  refine wp_c rfl (by omega) [0, 1, 2, 4] (d_readValue (TO := 5 * (5 * I + J)) (P := V) hp h1N hN s0 s1 hf hL hl (by omega) (by omega) (by omega) hV rfl (fun k hk => hz I J k (by omega) (by omega) hk hi0) (fun P2 gv' hP2 hgw hout hrv => ?_) (fun E P2 gv' hE hP2 hrv => ?_)) rfl rfl rfl rfl
  · rw [g1]
    refine wp_h (w_ri s l (P2 : Int) (-9) f (pj_up ig (5 * I + J) 1) gv') rfl ?_
    have hPp := sc_p_rg f hP2
    have hPr := sc_c_rg hf (P := P2) hL
    have hnn := nn_nm_rg hp1 N (f := fun k => gv' (5 * (5 * I + J) + k)) hgw.1
    refine wp_c rfl (by omega) [0, 2] (d_current hf hL hl hP2 rfl ?_) rfl rfl rfl rfl
    refine wp_h (w_ri s l ((sc_p f L P2 : Nat) : Int) (-9) f (pj_up ig (5 * I + J) 1) gv') rfl ?_
    refine wp_b rfl (by omega) (fun c => ?_) (fun c => ?_)
    · rw [if_neg c] at hrv
      rw [hrv] at hri
      refine wp_c rfl (by omega) [0, 2] (d_acc0 hf hL hl hPp.2 rfl ?_) rfl rfl rfl rfl
      rw [sc_p_idem f hP2]
      refine wp_r rfl (by omega) ?_
      rw [if_neg (show ¬ (0 : Int) ≤ ((-1 : Int), sc_p f L P2).1 by show ¬ (0 : Int) ≤ -1; omega)] at hri
      exact bad hri rfl rfl hPp.2 _ _ _ hPp.2
    · have c6 : sc_c f L P2 = 59 := Decidable.of_not_not c
      have hlt6 := sc_c_end (f := f) (L := L) (P := P2) (by omega)
      rw [if_pos c6] at hrv
      rw [hrv] at hri hvok
      refine wp_c rfl (by omega) [0, 2] (d_acc1 hf hL hl hPp.2 rfl ?_) rfl rfl rfl rfl
      rw [sc_p_idem f hP2]
      refine wp_r rfl (by omega) ?_
      rw [if_pos (show (0 : Int) ≤ (nn_nm p N (fun k => gv' (5 * (5 * I + J) + k)), sc_p f L P2 + 1).1 from hnn.1)] at hri
      have h9 := hQ1 (sc_p f L P2 + 1) I J gv' (by omega) ?_ hIN hJN hIJ hbit hgw hout hri
      · rw [Int.natCast_add] at h9
        exact h9
      · have hm := rv_v_mono (p := p) (N := N) (f := f) hV
        rw [hrv] at hm
        have hm : V ≤ sc_p f L P2 + 1 := hm
        omega
  · rw [g1]
    rw [hrv] at hri
    rw [if_neg (show ¬ (0 : Int) ≤ ((-1 : Int), E).1 by show ¬ (0 : Int) ≤ -1; omega)] at hri
    refine wp_h (w_ri s l (P2 : Int) (E : Int) f (pj_up ig (5 * I + J) 1) gv') rfl ?_
    refine wp_g rfl (by omega) ?_
    exact d_bad5 hf hL hl hE (bad hri rfl rfl hE _ _) hP2 rfl _ _ _ _
end TXI
