/-! Script.readItem -/
section ITEM
variable {X : pj_X} {Q : pj_Q}
theorem rv_l_ok {f : Nat → Int} {L N : Nat} {p : Int} (hp : nn_p p) (hN : N ≤ 5) : ∀ (m : Nat) (s v : Int) (P : Nat), P ≤ L → (rv_l f L p N m s v P).2 ≤ L ∧ ((rv_l f L p N m s v P).1 = -1 ∨ (0 ≤ (rv_l f L p N m s v P).1 ∧ (rv_l f L p N m s v P).1 < p ^ N)) := by
  have hp1 := (nn_p_pos hp).1
  intro m
  induction m with
  | zero => intro s v P hP; exact ⟨hP, Or.inl rfl⟩
  | succ m ih =>
    intro s v P hP
    unfold rv_l
    have a1 := sc_d_le (f := f) (b := p - 1) (show (0 : Int) ≤ 1 by omega) hP
    revert a1
    generalize sc_d f L 1 (p - 1) P = D
    intro a1
    have b1 := sc_t_le (f := f) (show (0 : Int) ≤ 101 by omega) a1
    by_cases e1 : (sc_t f L 101 D.2).1 = true
    · rw [if_pos e1]
      revert b1
      generalize (sc_t f L 101 D.2).2 = E
      intro b1
      have i1 := sc_d_le (f := f) (b := (N : Int) - 1) (show (0 : Int) ≤ 0 by omega) b1
      revert i1
      generalize sc_d f L 0 ((N : Int) - 1) E = G
      intro i1
      by_cases e2 : 0 ≤ G.1
      · rw [if_pos e2]
        generalize (if 0 ≤ D.1 then s * D.1 else s) = s'
        have hv : 0 ≤ nn_plus p N v (p ^ G.1.toNat) s' ∧ nn_plus p N v (p ^ G.1.toNat) s' < p ^ N := nn_nm_rg hp1 N (fun c _ => ⟨Int.emod_nonneg _ (by omega), Int.emod_lt_of_pos _ hp1⟩)
        have c1 := sc_t_le (f := f) (show (0 : Int) ≤ 59 by omega) i1
        have c2 := sc_t_le (f := f) (show (0 : Int) ≤ 45 by omega) c1
        have c3 := sc_t_le (f := f) (show (0 : Int) ≤ 43 by omega) c2
        by_cases e3 : (sc_t f L 59 G.2).1 = true
        · rw [if_pos e3]
          exact ⟨c1, Or.inr hv⟩
        · rw [if_neg e3]
          by_cases e4 : (sc_t f L 45 (sc_t f L 59 G.2).2).1 = true
          · rw [if_pos e4]
            exact ih _ _ _ c2
          · rw [if_neg e4]
            by_cases e5 : (sc_t f L 43 (sc_t f L 45 (sc_t f L 59 G.2).2).2).1 = true
            · rw [if_pos e5]
              exact ih _ _ _ c3
            · rw [if_neg e5]
              exact ⟨c3, Or.inl rfl⟩
      · rw [if_neg e2]
        exact ⟨i1, Or.inl rfl⟩
    · rw [if_neg e1]
      exact ⟨b1, Or.inl rfl⟩
theorem rv_v_ok {f : Nat → Int} {L N P : Nat} {p : Int} (hp : nn_p p) (hN : N ≤ 5) (hP : P ≤ L) : (rv_v f L p N P).2 ≤ L ∧ ((rv_v f L p N P).1 = -1 ∨ (0 ≤ (rv_v f L p N P).1 ∧ (rv_v f L p N P).1 < p ^ N)) := by
  have hp1 := nn_pw1 (nn_p_pos hp).1 N
  have c1 := sc_t_le (f := f) (show (0 : Int) ≤ 48 by omega) hP
  have c2 := sc_t_le (f := f) (show (0 : Int) ≤ 59 by omega) c1
  have c3 := sc_t_le (f := f) (show (0 : Int) ≤ 45 by omega) c1
  unfold rv_v
  by_cases e1 : (sc_t f L 48 P).1 = true
  · rw [if_pos e1]
    by_cases e2 : (sc_t f L 59 (sc_t f L 48 P).2).1 = true
    · rw [if_pos e2]
      exact ⟨c2, Or.inr ⟨Int.le_refl 0, by omega⟩⟩
    · rw [if_neg e2]
      exact ⟨c2, Or.inl rfl⟩
  · rw [if_neg e1]
    by_cases e2 : (sc_t f L 45 (sc_t f L 48 P).2).1 = true
    · rw [if_pos e2]
      exact rv_l_ok hp hN _ _ _ _ c3
    · rw [if_neg e2]
      exact rv_l_ok hp hN _ _ _ _ c3
/-- an entry and its negative -/
def ri_s (p : Int) (N I J : Nat) (v : Int) (D : Nat → Int) : Nat → Int := pj_up (pj_up D (5 * I + J) v) (5 * J + I) (nn_plus p N 0 v (-1))
/-- behind the second index: (fine, position, draft) -/
def ri_c (f : Nat → Int) (L : Nat) (p : Int) (N I J : Nat) (D : Nat → Int) (P : Nat) : Bool × Nat × (Nat → Int) :=
  if (sc_t f L 93 P).1 = true then
    if (sc_t f L 61 (sc_t f L 93 P).2).1 = true then
      if 0 ≤ (rv_v f L p N (sc_t f L 61 (sc_t f L 93 P).2).2).1 then (true, (rv_v f L p N (sc_t f L 61 (sc_t f L 93 P).2).2).2, ri_s p N I J (rv_v f L p N (sc_t f L 61 (sc_t f L 93 P).2).2).1 D)
      else (false, (rv_v f L p N (sc_t f L 61 (sc_t f L 93 P).2).2).2, D)
    else (false, (sc_t f L 61 (sc_t f L 93 P).2).2, D)
  else (false, (sc_t f L 93 P).2, D)
/-- the second index is allowed -/
def ri_ok (f : Nat → Int) (L N I G P : Nat) : Prop := (0 ≤ sc_c f L P - 48 ∧ sc_c f L P - 48 < (N : Int)) ∧ (I : Int) ≠ sc_c f L P - 48 ∧ G.testBit (bt_p I (sc_c f L P - 48).toNat) = false
/-- behind the comma: (fine, position, pairs, draft) -/
def ri_b (f : Nat → Int) (L : Nat) (p : Int) (N I G : Nat) (D : Nat → Int) (P : Nat) (d : Decidable (ri_ok f L N I G P)) : Bool × Nat × Nat × (Nat → Int) :=
  if ri_ok f L N I G P then ((ri_c f L p N I (sc_c f L P - 48).toNat D (sc_p f L P + 1)).1, (ri_c f L p N I (sc_c f L P - 48).toNat D (sc_p f L P + 1)).2.1, G ||| 2 ^ bt_p I (sc_c f L P - 48).toNat, (ri_c f L p N I (sc_c f L P - 48).toNat D (sc_p f L P + 1)).2.2)
  else (false, sc_p f L P, G, D)
/-- an item -/
noncomputable def ri_a (f : Nat → Int) (L : Nat) (p : Int) (N G : Nat) (D : Nat → Int) (P : Nat) : Bool × Nat × Nat × (Nat → Int) :=
  if (sc_t f L 91 P).1 = true then
    if 0 ≤ (sc_d f L 0 ((N : Int) - 1) (sc_t f L 91 P).2).1 then
      if (sc_t f L 44 (sc_d f L 0 ((N : Int) - 1) (sc_t f L 91 P).2).2).1 = true then ri_b f L p N (sc_d f L 0 ((N : Int) - 1) (sc_t f L 91 P).2).1.toNat G D (sc_t f L 44 (sc_d f L 0 ((N : Int) - 1) (sc_t f L 91 P).2).2).2 (Classical.propDecidable _)
      else (false, (sc_t f L 44 (sc_d f L 0 ((N : Int) - 1) (sc_t f L 91 P).2).2).2, G, D)
    else (false, (sc_d f L 0 ((N : Int) - 1) (sc_t f L 91 P).2).2, G, D)
  else (false, (sc_t f L 91 P).2, G, D)
abbrev w_RI (l q g p n : Int) (f D : Nat → Int) : List pj_C := [c_Sc (.inr 1) (.inr 2) (.inl l) (.inl q) (.inl g), c_A 120 f, c_T (.inl p) (.inl n) (.inr 3), c_A 25 D]
theorem ri_or {G k : Nat} (hG : G < 33554432) (hk : k < 25) : G ||| 2 ^ k < 33554432 := Nat.or_lt_two_pow (n := 25) hG (Nat.pow_lt_pow_right (by omega) hk)
theorem c_ri_c {p l q g : Int} {N L P I J : Nat} {i j : Int} {f D : Nat → Int} (hp : nn_p p) (h1N : 1 ≤ N) (hN : N ≤ 5) (hf : ∀ k, k < 120 → 0 ≤ f k ∧ f k ≤ 255) (hL : L ≤ 120) (hl : l = L) (hP : P ≤ L) (hq : q = P) (hi : i = I) (hj : j = J) (hI : I < N) (hJ : J < N) (d : pj_V)
    (hQ : Q (some (.inl (if (ri_c f L p N I J D P).1 = true then 1 else 0))) (w_RI l ((ri_c f L p N I J D P).2.1 : Nat) g p N f (ri_c f L p N I J D P).2.2)) :
    pj_WP X m_Script_readItem 103 [.inr 0, .inl i, .inl j, d] [.inl 93, .inr 0] (w_RI l q g p N f D) Q := by
  revert hQ
  unfold ri_c
  have b1 := sc_t_le (f := f) (show (0 : Int) ≤ 93 by omega) hP
  intro hQ
  refine wp_c rfl (by omega) [0, 1] (c_Stake2 hf hL hl hP hq (by unfold pj_rg; omega) (fun e => ?_) (fun e => ?_)) rfl rfl rfl rfl
  · rw [if_pos e] at hQ
    revert hQ
    revert b1
    generalize (sc_t f L 93 P).2 = E
    intro b1 hQ
    have b2 := sc_t_le (f := f) (show (0 : Int) ≤ 61 by omega) b1
    refine wp_h (w_RI l (E : Int) g p N f D) rfl ?_
    refine wp_b rfl (by omega) (fun c => absurd c (by omega)) (fun c => ?_)
    refine wp_c rfl (by omega) [0, 1] (c_Stake2 hf hL hl b1 rfl (by unfold pj_rg; omega) (fun e2 => ?_) (fun e2 => ?_)) rfl rfl rfl rfl
    · rw [if_pos e2] at hQ
      revert hQ
      revert b2
      generalize (sc_t f L 61 E).2 = G
      intro b2 hQ
      refine wp_h (w_RI l (G : Int) g p N f D) rfl ?_
      refine wp_b rfl (by omega) (fun c => ?_) (fun c => absurd c (by omega))
      obtain ⟨v1, v2⟩ := rv_v_ok (f := f) hp hN b2
      have hpw := nn_pwle hp N hN
      refine wp_c rfl (by omega) [0, 1, 2] (c_readValue hp h1N hN rfl hf hL hl b2 rfl ?_) rfl rfl rfl rfl
      revert hQ
      revert v2
      revert v1
      generalize rv_v f L p N G = V
      intro v1 v2 hQ
      refine wp_h (w_RI l (V.2 : Int) g p N f D) rfl ?_
      refine wp_b rfl (by omega) (fun c => ?_) (fun c => ?_)
      · rw [if_pos c] at hQ
        refine wp_c rfl (by omega) [2, 3] (c_setEntry (I := I) (J := J) hp hN rfl hi hj (by omega) (by omega) (by omega) ?_) rfl rfl rfl rfl
        exact wp_r rfl (by omega) hQ
      · rw [if_neg c] at hQ
        exact wp_r rfl (by omega) hQ
    · rw [if_neg (show ¬ (sc_t f L 61 E).1 = true by rw [e2]; exact Bool.false_ne_true)] at hQ
      refine wp_b rfl (by omega) (fun c => absurd c (by omega)) (fun c => ?_)
      exact wp_r rfl (by omega) hQ
  · rw [if_neg (show ¬ (sc_t f L 93 P).1 = true by rw [e]; exact Bool.false_ne_true)] at hQ
    refine wp_b rfl (by omega) (fun c => ?_) (fun c => absurd c (by omega))
    exact wp_r rfl (by omega) hQ
theorem c_ri_b {p l q : Int} {N L P I G : Nat} {i : Int} {f D : Nat → Int} (hp : nn_p p) (h1N : 1 ≤ N) (hN : N ≤ 5) (hf : ∀ k, k < 120 → 0 ≤ f k ∧ f k ≤ 255) (hL : L ≤ 120) (hl : l = L) (hP : P ≤ L) (hq : q = P) (hi : i = I) (hI : I < N) (hG : G < 33554432) (d1 d2 : pj_V) {dd : Decidable (ri_ok f L N I G P)}
    (hQ : Q (some (.inl (if (ri_b f L p N I G D P dd).1 = true then 1 else 0))) (w_RI l ((ri_b f L p N I G D P dd).2.1 : Nat) ((ri_b f L p N I G D P dd).2.2.1 : Nat) p N f (ri_b f L p N I G D P dd).2.2.2)) :
    pj_WP X m_Script_readItem 41 [.inr 0, .inl i, d1, d2] [] (w_RI l q (G : Int) p N f D) Q := by
  have hr := sc_c_rg hf (P := P) hL
  have hpp := sc_p_rg f hP
  refine wp_c rfl (by omega) [0, 1] (c_next hf hL hl hP hq ?_) rfl rfl rfl rfl
  refine wp_h (w_RI l (sc_p f L P : Int) (G : Int) p N f D) rfl ?_
  refine wp_c rfl (by omega) [2] (c_hasPair (by unfold pj_rg; omega) (by unfold pj_rg; omega) (by omega) (fun a1 a2 a3 => ?_) (fun a => ?_)) rfl rfl rfl rfl
  · refine wp_b rfl (by omega) (fun c => absurd c (by omega)) (fun c => ?_)
    have ej : sc_c f L P - 48 = ((sc_c f L P - 48).toNat : Int) := by omega
    have hJ : (sc_c f L P - 48).toNat < N := by omega
    have hk := bt_p_lt (I := I) (J := (sc_c f L P - 48).toNat) (by omega) (by omega)
    have h2 : 2 ^ bt_p I (sc_c f L P - 48).toNat < 33554432 := Nat.pow_lt_pow_right (n := 25) (a := 2) (by omega) hk
    refine wp_h (w_RI l (sc_p f L P : Int) (G : Int) p N f D) rfl ?_
    refine wp_c rfl (by omega) [] (c_pairBit (I := I) (J := (sc_c f L P - 48).toNat) hi ej (by omega) (by omega) ?_) rfl rfl rfl rfl
    have eand := pj_and_nat (G := G) (H := 2 ^ bt_p I (sc_c f L P - 48).toNat) (by omega) (by omega)
    have hand : (G &&& 2 ^ bt_p I (sc_c f L P - 48).toNat) ≤ G := Nat.and_le_left
    have eor := pj_or_nat (G := G) (H := 2 ^ bt_p I (sc_c f L P - 48).toNat) (by omega) (by omega)
    refine wp_b rfl (by rw [eand]; omega) (fun c => ?_) (fun c => ?_)
    · rw [eand] at c
      have hb : G.testBit (bt_p I (sc_c f L P - 48).toNat) = false := (bt_and0 _ _).mp (by omega)
      have hok : ri_ok f L N I G P := ⟨by omega, by omega, hb⟩
      unfold ri_b at hQ
      rw [if_pos hok] at hQ
      have hpl : sc_p f L P < L := sc_c_end (by omega)
      refine wp_c rfl (by omega) [] (c_pairBit (I := I) (J := (sc_c f L P - 48).toNat) hi ej (by omega) (by omega) ?_) rfl rfl rfl rfl
      refine wp_h (w_RI l ((sc_p f L P : Int) + 1) (G : Int) p N f D) rfl ?_
      refine wp_g rfl (by omega) ?_
      rw [eor]
      exact c_ri_c hp h1N hN hf hL hl (P := sc_p f L P + 1) (by omega) (by omega) hi ej hI hJ _ hQ
    · rw [eand] at c
      have hb : ¬ G.testBit (bt_p I (sc_c f L P - 48).toNat) = false := fun z => c (by rw [(bt_and0 _ _).mpr z]; rfl)
      have hok : ¬ ri_ok f L N I G P := fun z => hb z.2.2
      unfold ri_b at hQ
      rw [if_neg hok] at hQ
      exact wp_r rfl (by omega) hQ
  · have hok : ¬ ri_ok f L N I G P := fun z => a ⟨by omega, z.1, by have := z.2.1; omega⟩
    unfold ri_b at hQ
    rw [if_neg hok] at hQ
    refine wp_b rfl (by omega) (fun c => ?_) (fun c => absurd rfl c)
    exact wp_r rfl (by omega) hQ
/-- readItem() -/
theorem c_readItem {p l q : Int} {N L P G : Nat} {f D : Nat → Int} (hp : nn_p p) (h1N : 1 ≤ N) (hN : N ≤ 5) (hf : ∀ k, k < 120 → 0 ≤ f k ∧ f k ≤ 255) (hL : L ≤ 120) (hl : l = L) (hP : P ≤ L) (hq : q = P) (hG : G < 33554432)
    (hQ : Q (some (.inl (if (ri_a f L p N G D P).1 = true then 1 else 0))) (w_RI l ((ri_a f L p N G D P).2.1 : Nat) ((ri_a f L p N G D P).2.2.1 : Nat) p N f (ri_a f L p N G D P).2.2.2)) :
    pj_ci X m_Script_readItem [.inr 0] (w_RI l q (G : Int) p N f D) Q := by
  revert hQ
  unfold ri_a
  have b1 := sc_t_le (f := f) (show (0 : Int) ≤ 91 by omega) hP
  intro hQ
  refine wp_c rfl (by omega) [0, 1] (c_Stake2 hf hL hl hP hq (by unfold pj_rg; omega) (fun e => ?_) (fun e => ?_)) rfl rfl rfl rfl
  · rw [if_pos e] at hQ
    revert hQ
    revert b1
    generalize (sc_t f L 91 P).2 = E
    intro b1 hQ
    refine wp_h (w_RI l (E : Int) (G : Int) p N f D) rfl ?_
    refine wp_b rfl (by omega) (fun c => ?_) (fun c => absurd c (by omega))
    have i1 := sc_d_le (f := f) (b := (N : Int) - 1) (show (0 : Int) ≤ 0 by omega) b1
    have i2 := sc_d_rg (f := f) (L := L) (P := E) (b := (N : Int) - 1) (show (0 : Int) ≤ 0 by omega)
    refine wp_c rfl (by omega) [0, 1] (c_takeDigit2 hf hL hl b1 rfl (by unfold pj_rg; omega) (by unfold pj_rg; omega) ?_) rfl rfl rfl rfl
    revert hQ
    revert i2
    revert i1
    generalize sc_d f L 0 ((N : Int) - 1) E = A
    intro i1 i2 hQ
    refine wp_h (w_RI l (A.2 : Int) (G : Int) p N f D) rfl ?_
    refine wp_b rfl (by omega) (fun c => ?_) (fun c => ?_)
    · rw [if_neg (show ¬ 0 ≤ A.1 by omega)] at hQ
      exact wp_r rfl (by omega) hQ
    · rw [if_pos (show 0 ≤ A.1 by omega)] at hQ
      have b2 := sc_t_le (f := f) (show (0 : Int) ≤ 44 by omega) i1
      refine wp_c rfl (by omega) [0, 1] (c_Stake2 hf hL hl i1 rfl (by unfold pj_rg; omega) (fun e2 => ?_) (fun e2 => ?_)) rfl rfl rfl rfl
      · rw [if_pos e2] at hQ
        refine wp_h (w_RI l ((sc_t f L 44 A.2).2 : Int) (G : Int) p N f D) rfl ?_
        refine wp_b rfl (by omega) (fun c => ?_) (fun c => absurd c (by omega))
        exact c_ri_b hp h1N hN hf hL hl b2 rfl (by omega) (by omega) hG _ _ hQ
      · rw [if_neg (show ¬ (sc_t f L 44 A.2).1 = true by rw [e2]; exact Bool.false_ne_true)] at hQ
        refine wp_b rfl (by omega) (fun c => absurd c (by omega)) (fun c => ?_)
        exact wp_r rfl (by omega) hQ
  · rw [if_neg (show ¬ (sc_t f L 91 P).1 = true by rw [e]; exact Bool.false_ne_true)] at hQ
    refine wp_b rfl (by omega) (fun c => absurd c (by omega)) (fun c => ?_)
    exact wp_r rfl (by omega) hQ
end ITEM
