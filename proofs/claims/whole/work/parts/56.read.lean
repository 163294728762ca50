/-! Script.read -/
section READ
variable {X : pj_X} {Q : pj_Q}
theorem ri_c_ok {f : Nat → Int} {L N I J P : Nat} {p : Int} {D : Nat → Int} (hp : nn_p p) (hN : N ≤ 5) (hP : P ≤ L) : (ri_c f L p N I J D P).2.1 ≤ L := by
  have b1 := sc_t_le (f := f) (show (0 : Int) ≤ 93 by omega) hP
  have b2 := sc_t_le (f := f) (show (0 : Int) ≤ 61 by omega) b1
  have b3 := (rv_v_ok (f := f) hp hN b2).1
  unfold ri_c
  split
  · split
    · split
      · exact b3
      · exact b3
    · exact b2
  · exact b1
theorem ri_b_ok {f : Nat → Int} {L N I G P : Nat} {p : Int} {D : Nat → Int} {dd : Decidable (ri_ok f L N I G P)} (hp : nn_p p) (hN : N ≤ 5) (hP : P ≤ L) (hG : G < 33554432) (hI : I < N) : (ri_b f L p N I G D P dd).2.1 ≤ L ∧ (ri_b f L p N I G D P dd).2.2.1 < 33554432 := by
  have hpp := sc_p_rg f hP
  unfold ri_b
  split
  · next h =>
    have hpl : sc_p f L P < L := sc_c_end (by have := h.1.1; omega)
    exact ⟨ri_c_ok hp hN (by omega), ri_or hG (bt_p_lt (by omega) (by have := h.1; omega))⟩
  · exact ⟨hpp.2, hG⟩
theorem ri_a_ok {f : Nat → Int} {L N G P : Nat} {p : Int} {D : Nat → Int} (hp : nn_p p) (hN : N ≤ 5) (hP : P ≤ L) (hG : G < 33554432) : (ri_a f L p N G D P).2.1 ≤ L ∧ (ri_a f L p N G D P).2.2.1 < 33554432 := by
  have b1 := sc_t_le (f := f) (show (0 : Int) ≤ 91 by omega) hP
  unfold ri_a
  split
  · revert b1
    generalize (sc_t f L 91 P).2 = E
    intro b1
    have i1 := sc_d_le (f := f) (b := (N : Int) - 1) (show (0 : Int) ≤ 0 by omega) b1
    have i2 := sc_d_rg (f := f) (L := L) (P := E) (b := (N : Int) - 1) (show (0 : Int) ≤ 0 by omega)
    revert i2
    revert i1
    generalize sc_d f L 0 ((N : Int) - 1) E = A
    intro i1 i2
    have b2 := sc_t_le (f := f) (show (0 : Int) ≤ 44 by omega) i1
    split
    · split
      · exact ri_b_ok hp hN b2 hG (by omega)
      · exact ⟨b2, hG⟩
    · exact ⟨i1, hG⟩
  · exact ⟨b1, hG⟩
/-- the items: fuel, items so far, pairs, draft, position: (answer, draft) -/
noncomputable def rd_l (f : Nat → Int) (L : Nat) (p : Int) (N : Nat) : Nat → Nat → Nat → (Nat → Int) → Nat → Int × (Nat → Int)
  | 0, t, _, D, _ => ((t : Int), D)
  | m + 1, t, G, D, P =>
    if (ri_a f L p N G D P).1 = true then
      if sc_c f L (ri_a f L p N G D P).2.1 = -1 then ((t : Int) + 1, (ri_a f L p N G D P).2.2.2)
      else rd_l f L p N m (t + 1) (ri_a f L p N G D P).2.2.1 (ri_a f L p N G D P).2.2.2 (sc_p f L (ri_a f L p N G D P).2.1)
    else (-10 - ((ri_a f L p N G D P).2.1 : Int), (ri_a f L p N G D P).2.2.2)
abbrev w_RD (l p n p' n' : Int) (q g : Int) (f D br : Nat → Int) : List pj_C := [c_Sc (.inr 1) (.inr 2) (.inl l) (.inl q) (.inl g), c_A 120 f, c_T (.inl p) (.inl n) (.inr 3), c_A 25 D, c_T (.inl p') (.inl n') (.inr 5), c_A 25 br]
theorem c_rd_loop {p l p' n' : Int} {N L : Nat} {f br : Nat → Int} (hp : nn_p p) (h1N : 1 ≤ N) (hN : N ≤ 5) (hf : ∀ k, k < 120 → 0 ≤ f k ∧ f k ≤ 255) (hL : L ≤ 120) (hl : l = L) :
    ∀ (m t : Nat) (z : Int) (q : Int) (P G : Nat) (D : Nat → Int) (d : pj_V), t + (m + 1) = 120 → z = t → P ≤ L → q = P → G < 33554432 →
      (∀ (q g : Int), Q (some (.inl (rd_l f L p N (m + 1) t G D P).1)) (w_RD l p N p' n' q g f (rd_l f L p N (m + 1) t G D P).2 br)) →
      pj_WP X m_Script_read 20 [.inr 0, .inr 4, .inl z] [] (w_RD l p N p' n' q (G : Int) f D br) Q := by
  intro m
  induction m with
  | zero =>
    intro t z q P G D d ht hz hP hq hG hQ
    have hb := ri_a_ok (f := f) (D := D) hp hN hP hG
    unfold rd_l at hQ
    unfold rd_l at hQ
    refine wp_c rfl (by omega) [0, 1, 2, 3] (c_readItem hp h1N hN hf hL hl hP hq hG ?_) rfl rfl rfl rfl
    revert hQ
    revert hb
    generalize ri_a f L p N G D P = A
    intro hb hQ
    refine wp_h (w_RD l p N p' n' (A.2.1 : Int) (A.2.2.1 : Int) f A.2.2.2 br) rfl ?_
    by_cases e : A.1 = true
    · rw [if_pos e] at hQ
      rw [if_pos e]
      refine wp_b rfl (by omega) (fun c => ?_) (fun c => absurd c (by omega))
      refine wp_b rfl (by omega) (fun c => ?_) (fun c => absurd c (by omega))
      refine wp_r rfl (by omega) ?_
      have e2 : z + 1 = ((t : Int) + 1) := by omega
      rw [e2]
      have h9 := hQ (A.2.1 : Int) (A.2.2.1 : Int)
      by_cases e3 : sc_c f L A.2.1 = -1
      · rw [if_pos e3] at h9
        exact h9
      · rw [if_neg e3] at h9
        exact h9
    · rw [if_neg e] at hQ
      rw [if_neg e]
      refine wp_b rfl (by omega) (fun c => absurd c (by omega)) (fun c => ?_)
      exact wp_r rfl (by omega) (hQ _ _)
  | succ m ih =>
    intro t z q P G D d ht hz hP hq hG hQ
    have hb := ri_a_ok (f := f) (D := D) hp hN hP hG
    unfold rd_l at hQ
    refine wp_c rfl (by omega) [0, 1, 2, 3] (c_readItem hp h1N hN hf hL hl hP hq hG ?_) rfl rfl rfl rfl
    revert hQ
    revert hb
    generalize ri_a f L p N G D P = A
    intro hb hQ
    have hr := sc_c_rg hf (P := A.2.1) hL
    have hpp := sc_p_rg f hb.1
    refine wp_h (w_RD l p N p' n' (A.2.1 : Int) (A.2.2.1 : Int) f A.2.2.2 br) rfl ?_
    by_cases e : A.1 = true
    · rw [if_pos e] at hQ
      rw [if_pos e]
      refine wp_b rfl (by omega) (fun c => ?_) (fun c => absurd c (by omega))
      refine wp_b rfl (by omega) (fun c => absurd c (by omega)) (fun c => ?_)
      refine wp_c rfl (by omega) [0, 1] (c_next hf hL hl hb.1 rfl ?_) rfl rfl rfl rfl
      refine wp_h (w_RD l p N p' n' (sc_p f L A.2.1 : Int) (A.2.2.1 : Int) f A.2.2.2 br) rfl ?_
      refine wp_b rfl (by omega) (fun c2 => ?_) (fun c2 => ?_)
      · rw [if_neg c2] at hQ
        refine ih (t + 1) _ _ _ _ _ d (by omega) (by omega) hpp.2 rfl hb.2 hQ
      · have e3 : sc_c f L A.2.1 = -1 := Decidable.of_not_not c2
        rw [if_pos e3] at hQ
        refine wp_r rfl (by omega) ?_
        have e2 : z + 1 = ((t : Int) + 1) := by omega
        rw [e2]
        exact hQ _ _
    · rw [if_neg e] at hQ
      rw [if_neg e]
      refine wp_b rfl (by omega) (fun c => absurd c (by omega)) (fun c => ?_)
      exact wp_r rfl (by omega) (hQ _ _)
/-- read(table) -/
theorem c_read {p l n : Int} {N L : Nat} {f D br : Nat → Int} {q g : Int} (hp : nn_p p) (h1N : 1 ≤ N) (hN : N ≤ 5) (hn : n = N) (hf : ∀ k, k < 120 → 0 ≤ f k ∧ f k ≤ 255) (hL : L ≤ 120) (hl : l = L)
    (hQ : ∀ (q g : Int), Q (some (.inl (rd_l f L p N 120 0 0 (va_cpy br D 0 0 25) 0).1)) (w_RD l p n p n q g f (rd_l f L p N 120 0 0 (va_cpy br D 0 0 25) 0).2 br)) :
    pj_ci X m_Script_read [.inr 0, .inr 4] [c_Sc (.inr 1) (.inr 2) (.inl l) (.inl q) (.inl g), c_A 120 f, c_T v_u v_u (.inr 3), c_A 25 D, c_T (.inl p) (.inl n) (.inr 5), c_A 25 br] Q := by
  subst hn
  refine wp_c rfl (by omega) [2, 3, 4, 5] (c_copyFrom ?_) rfl rfl rfl rfl
  refine wp_g rfl (by omega) ?_
  exact c_rd_loop hp h1N hN hf hL hl 119 0 _ _ 0 0 _ v_u (by omega) (by omega) (by omega) (by omega) (by omega) hQ
end READ
