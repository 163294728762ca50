/-! Script.readValue -/
section VALUE
variable {X : pj_X} {Q : pj_Q}
/-- take, on positions -/
def sc_t (f : Nat → Int) (L : Nat) (w : Int) (P : Nat) : Bool × Nat := if sc_c f L P = w then (true, sc_p f L P + 1) else (false, sc_p f L P)
/-- takeDigit, on positions -/
def sc_d (f : Nat → Int) (L : Nat) (a b : Int) (P : Nat) : Int × Nat := if a ≤ sc_c f L P - 48 ∧ sc_c f L P - 48 ≤ b then (sc_c f L P - 48, sc_p f L P + 1) else (-1, sc_p f L P)
theorem sc_c_end {f : Nat → Int} {L P : Nat} (hc : 0 ≤ sc_c f L P) : sc_p f L P < L := by
  unfold sc_c at hc
  by_cases h : sc_p f L P < L
  · exact h
  · rw [if_neg h] at hc
    omega
theorem sc_t_le {f : Nat → Int} {L P : Nat} {w : Int} (hw : 0 ≤ w) (hP : P ≤ L) : (sc_t f L w P).2 ≤ L := by
  have h := (sc_p_rg f hP).2
  unfold sc_t
  by_cases e : sc_c f L P = w
  · rw [if_pos e]
    exact sc_c_end (by omega)
  · rw [if_neg e]
    exact h
theorem sc_d_le {f : Nat → Int} {L P : Nat} {a b : Int} (ha : 0 ≤ a) (hP : P ≤ L) : (sc_d f L a b P).2 ≤ L := by
  have h := (sc_p_rg f hP).2
  unfold sc_d
  by_cases e : a ≤ sc_c f L P - 48 ∧ sc_c f L P - 48 ≤ b
  · rw [if_pos e]
    exact sc_c_end (by omega)
  · rw [if_neg e]
    exact h
theorem sc_d_rg {f : Nat → Int} {L P : Nat} {a b : Int} (ha : 0 ≤ a) : (sc_d f L a b P).1 = -1 ∨ (a ≤ (sc_d f L a b P).1 ∧ (sc_d f L a b P).1 ≤ b) := by
  unfold sc_d
  by_cases e : a ≤ sc_c f L P - 48 ∧ sc_c f L P - 48 ≤ b
  · rw [if_pos e]
    exact Or.inr e
  · rw [if_neg e]
    exact Or.inl rfl
/-- take, told by sc_t -/
theorem c_Stake2 {f : Nat → Int} {L P : Nat} {l q w : Int} (hf : ∀ k, k < 120 → 0 ≤ f k ∧ f k ≤ 255) (hL : L ≤ 120) (hl : l = L) (hP : P ≤ L) (hq : q = P) (hw : pj_rg w)
    (h1 : (sc_t f L w P).1 = true → Q (some (.inl 1)) (w_X l (((sc_t f L w P).2 : Nat) : Int) f)) (h0 : (sc_t f L w P).1 = false → Q (some (.inl 0)) (w_X l (((sc_t f L w P).2 : Nat) : Int) f)) : pj_ci X m_Script_take [.inr 0, .inl w] (w_X l q f) Q := by
  refine c_Stake hf hL hl hP hq hw (fun c => ?_) (fun c => ?_)
  · unfold sc_t at h1
    rw [if_pos c] at h1
    exact h1 rfl
  · unfold sc_t at h0
    rw [if_neg c] at h0
    exact h0 rfl
/-- takeDigit, told by sc_d -/
theorem c_takeDigit2 {f : Nat → Int} {L P : Nat} {l q a b : Int} (hf : ∀ k, k < 120 → 0 ≤ f k ∧ f k ≤ 255) (hL : L ≤ 120) (hl : l = L) (hP : P ≤ L) (hq : q = P) (ha : pj_rg a) (hb : pj_rg b)
    (h : Q (some (.inl (sc_d f L a b P).1)) (w_X l (((sc_d f L a b P).2 : Nat) : Int) f)) : pj_ci X m_Script_takeDigit [.inr 0, .inl a, .inl b] (w_X l q f) Q := by
  refine c_takeDigit hf hL hl hP hq ha hb (fun c c2 => ?_) (fun c => ?_)
  · unfold sc_d at h
    rw [if_pos ⟨c, c2⟩] at h
    exact h
  · unfold sc_d at h
    rw [if_neg (by omega)] at h
    exact h
/-- the terms of a value: fuel, sign, value, position -/
def rv_l (f : Nat → Int) (L : Nat) (p : Int) (N : Nat) : Nat → Int → Int → Nat → Int × Nat
  | 0, _, _, P => (-1, P)
  | m + 1, s, v, P =>
    if (sc_t f L 101 (sc_d f L 1 (p - 1) P).2).1 = true then
      if 0 ≤ (sc_d f L 0 ((N : Int) - 1) (sc_t f L 101 (sc_d f L 1 (p - 1) P).2).2).1 then
        if (sc_t f L 59 (sc_d f L 0 ((N : Int) - 1) (sc_t f L 101 (sc_d f L 1 (p - 1) P).2).2).2).1 = true then
          (nn_plus p N v (p ^ (sc_d f L 0 ((N : Int) - 1) (sc_t f L 101 (sc_d f L 1 (p - 1) P).2).2).1.toNat) (if 0 ≤ (sc_d f L 1 (p - 1) P).1 then s * (sc_d f L 1 (p - 1) P).1 else s), (sc_t f L 59 (sc_d f L 0 ((N : Int) - 1) (sc_t f L 101 (sc_d f L 1 (p - 1) P).2).2).2).2)
        else if (sc_t f L 45 (sc_t f L 59 (sc_d f L 0 ((N : Int) - 1) (sc_t f L 101 (sc_d f L 1 (p - 1) P).2).2).2).2).1 = true then
          rv_l f L p N m (-1) (nn_plus p N v (p ^ (sc_d f L 0 ((N : Int) - 1) (sc_t f L 101 (sc_d f L 1 (p - 1) P).2).2).1.toNat) (if 0 ≤ (sc_d f L 1 (p - 1) P).1 then s * (sc_d f L 1 (p - 1) P).1 else s)) (sc_t f L 45 (sc_t f L 59 (sc_d f L 0 ((N : Int) - 1) (sc_t f L 101 (sc_d f L 1 (p - 1) P).2).2).2).2).2
        else if (sc_t f L 43 (sc_t f L 45 (sc_t f L 59 (sc_d f L 0 ((N : Int) - 1) (sc_t f L 101 (sc_d f L 1 (p - 1) P).2).2).2).2).2).1 = true then
          rv_l f L p N m 1 (nn_plus p N v (p ^ (sc_d f L 0 ((N : Int) - 1) (sc_t f L 101 (sc_d f L 1 (p - 1) P).2).2).1.toNat) (if 0 ≤ (sc_d f L 1 (p - 1) P).1 then s * (sc_d f L 1 (p - 1) P).1 else s)) (sc_t f L 43 (sc_t f L 45 (sc_t f L 59 (sc_d f L 0 ((N : Int) - 1) (sc_t f L 101 (sc_d f L 1 (p - 1) P).2).2).2).2).2).2
        else (-1, (sc_t f L 43 (sc_t f L 45 (sc_t f L 59 (sc_d f L 0 ((N : Int) - 1) (sc_t f L 101 (sc_d f L 1 (p - 1) P).2).2).2).2).2).2)
      else (-1, (sc_d f L 0 ((N : Int) - 1) (sc_t f L 101 (sc_d f L 1 (p - 1) P).2).2).2)
    else (-1, (sc_t f L 101 (sc_d f L 1 (p - 1) P).2).2)
abbrev w_RV (l q p n : Int) (f : Nat → Int) : List pj_C := [c_Sc (.inr 1) (.inr 2) (.inl l) (.inl q) v_u, c_A 120 f, c_T (.inl p) (.inl n) v_u]
set_option maxHeartbeats 1000000 in
theorem c_rv_loop {p n l : Int} {N L : Nat} {f : Nat → Int} (hp : nn_p p) (h1N : 1 ≤ N) (hN : N ≤ 5) (hn : n = N) (hf : ∀ k, k < 120 → 0 ≤ f k ∧ f k ≤ 255) (hL : L ≤ 120) (hl : l = L) :
    ∀ (m : Nat) (s v t q : Int) (P : Nat) (d1 d2 : pj_V), t + m = 120 → 0 ≤ t → (s = 1 ∨ s = -1) → (0 ≤ v ∧ v ≤ 2147483647) → P ≤ L → q = P →
      Q (some (.inl (rv_l f L p N m s v P).1)) (w_RV l (((rv_l f L p N m s v P).2 : Nat) : Int) p n f) →
      pj_WP X m_Script_readValue 43 [.inr 0, .inl s, .inl v, .inl t, d1, d2] [] (w_RV l q p n f) Q := by
  obtain ⟨hp1, hp2, hp3⟩ := nn_p_pos hp
  intro m
  induction m with
  | zero =>
    intro s v t q P d1 d2 ht ht0 hs hv hP hq hQ
    refine wp_b rfl (by omega) (fun c => ?_) (fun c => absurd c (by omega))
    refine wp_r rfl (by omega) ?_
    rw [hq]
    exact hQ
  | succ m ih =>
    intro s v t q P d1 d2 ht ht0 hs hv hP hq hQ
    unfold rv_l at hQ
    revert hQ
    have a1 := sc_d_le (f := f) (b := p - 1) (show (0 : Int) ≤ 1 by omega) hP
    have a2 := sc_d_rg (f := f) (L := L) (P := P) (b := p - 1) (show (0 : Int) ≤ 1 by omega)
    refine fun hQ => wp_b rfl (by omega) (fun c => absurd c (by omega)) (fun c => ?_)
    refine wp_c rfl (by omega) [0, 1] (c_takeDigit2 hf hL hl hP hq (by unfold pj_rg; omega) (by unfold pj_rg; omega) ?_) rfl rfl rfl rfl
    revert hQ
    revert a2
    revert a1
    generalize sc_d f L 1 (p - 1) P = D
    intro a1 a2 hQ
    refine wp_h (w_RV l (D.2 : Int) p n f) rfl ?_
    have b1 := sc_t_le (f := f) (show (0 : Int) ≤ 101 by omega) a1
    refine wp_c rfl (by omega) [0, 1] (c_Stake2 hf hL hl a1 rfl (by unfold pj_rg; omega) (fun e => ?_) (fun e => ?_)) rfl rfl rfl rfl
    · rw [if_pos e] at hQ
      revert hQ
      revert b1
      generalize (sc_t f L 101 D.2).2 = E
      intro b1 hQ
      refine wp_b rfl (by omega) (fun c => absurd c (by omega)) (fun c => ?_)
      have i1 := sc_d_le (f := f) (b := (N : Int) - 1) (show (0 : Int) ≤ 0 by omega) b1
      have i2 := sc_d_rg (f := f) (L := L) (P := E) (b := (N : Int) - 1) (show (0 : Int) ≤ 0 by omega)
      subst hn
      refine wp_c rfl (by omega) [0, 1] (c_takeDigit2 hf hL hl b1 rfl (by unfold pj_rg; omega) (by unfold pj_rg; omega) ?_) rfl rfl rfl rfl
      revert hQ
      revert i2
      revert i1
      generalize sc_d f L 0 ((N : Int) - 1) E = G
      intro i1 i2 hQ
      refine wp_h (w_RV l (G.2 : Int) p N f) rfl ?_
      refine wp_b rfl (by omega) (fun c => ?_) (fun c => ?_)
      · have i3 : 0 ≤ G.1 ∧ G.1 ≤ (N : Int) - 1 := by omega
        rw [if_pos i3.1] at hQ
        have ei : G.1 = ((G.1.toNat : Nat) : Int) := by omega
        have pw : 0 ≤ p ^ G.1.toNat ∧ p ^ G.1.toNat ≤ 2147483647 := by
          have := nn_pw1 hp1 G.1.toNat
          have := nn_pwle hp G.1.toNat (by omega)
          omega
        refine wp_c rfl (by omega) [2] (c_power (E := G.1.toNat) (by omega) ei ?_) rfl rfl rfl rfl
        have main : ∀ v' : Int, v' = nn_plus p N v (p ^ G.1.toNat) (if 0 ≤ D.1 then s * D.1 else s) → pj_WP X m_Script_readValue 131 [.inr 0, .inl s, .inl v, .inl t, .inl D.1, .inl G.1] [.inl v'] (w_RV l (G.2 : Int) p N f) Q := by
          intro v' hv'
          rw [← hv'] at hQ
          have rv' : 0 ≤ v' ∧ v' ≤ 2147483647 := by
            rw [hv']
            exact tt_num hp hN
          have c1 := sc_t_le (f := f) (show (0 : Int) ≤ 59 by omega) i1
          refine wp_c rfl (by omega) [0, 1] (c_Stake2 hf hL hl i1 rfl (by unfold pj_rg; omega) (fun e => ?_) (fun e => ?_)) rfl rfl rfl rfl
          · rw [if_pos e] at hQ
            refine wp_b rfl (by omega) (fun c => absurd c (by omega)) (fun c => ?_)
            exact wp_r rfl (by omega) hQ
          · rw [if_neg (by rw [e]; exact Bool.false_ne_true)] at hQ
            refine wp_b rfl (by omega) (fun c => ?_) (fun c => absurd c (by omega))
            have c2 := sc_t_le (f := f) (show (0 : Int) ≤ 45 by omega) c1
            refine wp_h (w_RV l ((sc_t f L 59 G.2).2 : Int) p N f) rfl ?_
            refine wp_c rfl (by omega) [0, 1] (c_Stake2 hf hL hl c1 rfl (by unfold pj_rg; omega) (fun e2 => ?_) (fun e2 => ?_)) rfl rfl rfl rfl
            · rw [if_pos e2] at hQ
              refine wp_b rfl (by omega) (fun c => absurd c (by omega)) (fun c => ?_)
              refine wp_b rfl (by omega) (fun c => ?_) (fun c => absurd c (by omega))
              refine wp_g rfl (by omega) ?_
              exact ih _ _ _ _ _ _ _ (by omega) (by omega) (Or.inr rfl) rv' c2 rfl hQ
            · rw [if_neg (by rw [e2]; exact Bool.false_ne_true)] at hQ
              refine wp_b rfl (by omega) (fun c => ?_) (fun c => absurd c (by omega))
              refine wp_b rfl (by omega) (fun c => absurd c (by omega)) (fun c => ?_)
              have c3 := sc_t_le (f := f) (show (0 : Int) ≤ 43 by omega) c2
              refine wp_h (w_RV l ((sc_t f L 45 (sc_t f L 59 G.2).2).2 : Int) p N f) rfl ?_
              refine wp_c rfl (by omega) [0, 1] (c_Stake2 hf hL hl c2 rfl (by unfold pj_rg; omega) (fun e3 => ?_) (fun e3 => ?_)) rfl rfl rfl rfl
              · rw [if_pos e3] at hQ
                refine wp_b rfl (by omega) (fun c => ?_) (fun c => absurd c (by omega))
                refine wp_g rfl (by omega) ?_
                exact ih _ _ _ _ _ _ _ (by omega) (by omega) (Or.inl rfl) rv' c3 rfl hQ
              · rw [if_neg (by rw [e3]; exact Bool.false_ne_true)] at hQ
                refine wp_b rfl (by omega) (fun c => absurd c (by omega)) (fun c => ?_)
                exact wp_r rfl (by omega) hQ
        have hfr : 0 ≤ D.1 → -7 ≤ s * D.1 ∧ s * D.1 ≤ 7 := fun h => by
          rcases hs with h2 | h2 <;> rw [h2] <;> omega
        refine wp_b rfl (by omega) (fun c => ?_) (fun c => ?_)
        · have h7 := hfr (by omega)
          refine wp_c rfl (by omega) [2] (c_plus (N := N) hp hN rfl hv pw (f := s * D.1) (by unfold pj_rg; omega) ?_) rfl rfl rfl rfl
          exact main _ (by rw [if_pos (by omega)])
        · refine wp_c rfl (by omega) [2] (c_plus (N := N) hp hN rfl hv pw (f := s) (by unfold pj_rg; omega) ?_) rfl rfl rfl rfl
          exact main _ (by rw [if_neg (by omega)])
      · rw [if_neg (by omega)] at hQ
        exact wp_r rfl (by omega) hQ
    · rw [if_neg (by rw [e]; exact Bool.false_ne_true)] at hQ
      refine wp_b rfl (by omega) (fun c => ?_) (fun c => absurd c (by omega))
      refine wp_b rfl (by omega) (fun c => absurd c (by omega)) (fun c => ?_)
      exact wp_r rfl (by omega) hQ
/-- a value and the semicolon: (value or -1, position) -/
def rv_v (f : Nat → Int) (L : Nat) (p : Int) (N P : Nat) : Int × Nat :=
  if (sc_t f L 48 P).1 = true then
    if (sc_t f L 59 (sc_t f L 48 P).2).1 = true then (0, (sc_t f L 59 (sc_t f L 48 P).2).2) else (-1, (sc_t f L 59 (sc_t f L 48 P).2).2)
  else if (sc_t f L 45 (sc_t f L 48 P).2).1 = true then rv_l f L p N 120 (-1) 0 (sc_t f L 45 (sc_t f L 48 P).2).2
  else rv_l f L p N 120 1 0 (sc_t f L 45 (sc_t f L 48 P).2).2
/-- readValue() -/
theorem c_readValue {p n l q : Int} {N L P : Nat} {f : Nat → Int} (hp : nn_p p) (h1N : 1 ≤ N) (hN : N ≤ 5) (hn : n = N) (hf : ∀ k, k < 120 → 0 ≤ f k ∧ f k ≤ 255) (hL : L ≤ 120) (hl : l = L) (hP : P ≤ L) (hq : q = P)
    (hQ : Q (some (.inl (rv_v f L p N P).1)) (w_RV l (((rv_v f L p N P).2 : Nat) : Int) p n f)) : pj_ci X m_Script_readValue [.inr 0] (w_RV l q p n f) Q := by
  unfold rv_v at hQ
  have c1 := sc_t_le (f := f) (show (0 : Int) ≤ 48 by omega) hP
  refine wp_c rfl (by omega) [0, 1] (c_Stake2 hf hL hl hP hq (by unfold pj_rg; omega) (fun e => ?_) (fun e => ?_)) rfl rfl rfl rfl
  · rw [if_pos e] at hQ
    refine wp_b rfl (by omega) (fun c => absurd c (by omega)) (fun c => ?_)
    refine wp_c rfl (by omega) [0, 1] (c_Stake2 hf hL hl c1 rfl (by unfold pj_rg; omega) (fun e2 => ?_) (fun e2 => ?_)) rfl rfl rfl rfl
    · rw [if_pos e2] at hQ
      refine wp_b rfl (by omega) (fun c => absurd c (by omega)) (fun c => ?_)
      exact wp_r rfl (by omega) hQ
    · rw [if_neg (by rw [e2]; exact Bool.false_ne_true)] at hQ
      refine wp_b rfl (by omega) (fun c => ?_) (fun c => absurd c (by omega))
      exact wp_r rfl (by omega) hQ
  · rw [if_neg (by rw [e]; exact Bool.false_ne_true)] at hQ
    refine wp_b rfl (by omega) (fun c => ?_) (fun c => absurd c (by omega))
    have c2 := sc_t_le (f := f) (show (0 : Int) ≤ 45 by omega) c1
    refine wp_c rfl (by omega) [0, 1] (c_Stake2 hf hL hl c1 rfl (by unfold pj_rg; omega) (fun e2 => ?_) (fun e2 => ?_)) rfl rfl rfl rfl
    · rw [if_pos e2] at hQ
      refine wp_b rfl (by omega) (fun c => absurd c (by omega)) (fun c => ?_)
      refine wp_g rfl (by omega) ?_
      exact c_rv_loop hp h1N hN hn hf hL hl 120 _ _ _ _ _ _ _ (by omega) (by omega) (Or.inr rfl) (by omega) c2 rfl hQ
    · rw [if_neg (by rw [e2]; exact Bool.false_ne_true)] at hQ
      refine wp_b rfl (by omega) (fun c => ?_) (fun c => absurd c (by omega))
      refine wp_g rfl (by omega) ?_
      exact c_rv_loop hp h1N hN hn hf hL hl 120 _ _ _ _ _ _ _ (by omega) (by omega) (Or.inl rfl) (by omega) c2 rfl hQ
end VALUE
