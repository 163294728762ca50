/-! Script: add, next, take, takeDigit -/
section SCRIPT
variable {X : pj_X} {Q : pj_Q}
abbrev c_Sc (c d l p g : pj_V) : pj_C := .inr (2, [c, d, l, p, g])
abbrev w_X (l p : Int) (f : Nat → Int) : List pj_C := [c_Sc (.inr 1) v_u (.inl l) (.inl p) v_u, c_A 120 f]
/-- over spaces, at most m of them -/
def sc_sk (f : Nat → Int) : Nat → Nat → Nat
  | 0, P => P
  | m + 1, P => if f P = 32 then sc_sk f m (P + 1) else P
/-- the position of the next character -/
def sc_p (f : Nat → Int) (L P : Nat) : Nat := sc_sk f (L - P) P
/-- the next character -/
def sc_c (f : Nat → Int) (L P : Nat) : Int := if sc_p f L P < L then f (sc_p f L P) else -1
theorem sc_sk_rg (f : Nat → Int) : ∀ (m P : Nat), P ≤ sc_sk f m P ∧ sc_sk f m P ≤ P + m
  | 0, P => ⟨Nat.le_refl P, Nat.le_refl P⟩
  | m + 1, P => by
    have h := sc_sk_rg f m (P + 1)
    unfold sc_sk
    split <;> omega
theorem sc_p_rg (f : Nat → Int) {L P : Nat} (h : P ≤ L) : P ≤ sc_p f L P ∧ sc_p f L P ≤ L := by
  have := sc_sk_rg f (L - P) P
  unfold sc_p
  omega
theorem sc_c_rg {f : Nat → Int} (hf : ∀ k, k < 120 → 0 ≤ f k ∧ f k ≤ 255) {L P : Nat} (hL : L ≤ 120) : -1 ≤ sc_c f L P ∧ sc_c f L P ≤ 255 := by
  unfold sc_c
  split
  · next h =>
    have := hf (sc_p f L P) (by omega)
    omega
  · omega
theorem c_next_loop {f : Nat → Int} {L : Nat} {l : Int} (hf : ∀ k, k < 120 → 0 ≤ f k ∧ f k ≤ 255) (hL : L ≤ 120) (hl : l = L) :
    ∀ (m P : Nat) (q : Int), P + m = L → q = P → (Q (some (.inl (if sc_sk f m P < L then f (sc_sk f m P) else -1))) (w_X l ((sc_sk f m P : Nat) : Int) f)) → pj_WP X m_Script_next 0 [.inr 0] [] (w_X l q f) Q := by
  intro m
  induction m with
  | zero =>
    intro P q hP hq hQ
    refine wp_b rfl (by omega) (fun c => ?_) (fun c => absurd c (by omega))
    refine wp_b rfl (by omega) (fun c => ?_) (fun c => absurd c (by omega))
    refine wp_r rfl (by omega) ?_
    rw [show sc_sk f 0 P = P from rfl, if_neg (by omega), ← hq] at hQ
    exact hQ
  | succ m ih =>
    intro P q hP hq hQ
    have h0 := hf P (by omega)
    refine wp_b rfl (by omega) (fun c => absurd c (by omega)) (fun c => ?_)
    refine wp_c rfl (by omega) [1] (c_at (I := P) (by omega) hq (by omega) ?_) rfl rfl rfl rfl
    refine wp_b rfl (by omega) (fun c2 => ?_) (fun c2 => ?_)
    · have e : sc_sk f (m + 1) P = P := if_neg c2
      rw [e, if_pos (by omega), ← hq] at hQ
      refine wp_b rfl (by omega) (fun c => absurd c (by omega)) (fun c => ?_)
      refine wp_c rfl (by omega) [1] (c_at (I := P) (by omega) hq (by omega) ?_) rfl rfl rfl rfl
      exact wp_r rfl (by omega) hQ
    · have e : sc_sk f (m + 1) P = sc_sk f m (P + 1) := if_pos (Decidable.of_not_not c2)
      rw [e] at hQ
      refine wp_g rfl (by omega) ?_
      exact ih (P + 1) _ (by omega) (by omega) hQ
/-- next() -/
theorem c_next {f : Nat → Int} {L P : Nat} {l q : Int} (hf : ∀ k, k < 120 → 0 ≤ f k ∧ f k ≤ 255) (hL : L ≤ 120) (hl : l = L) (hP : P ≤ L) (hq : q = P) (hQ : Q (some (.inl (sc_c f L P))) (w_X l ((sc_p f L P : Nat) : Int) f)) : pj_ci X m_Script_next [.inr 0] (w_X l q f) Q :=
  c_next_loop hf hL hl (L - P) P q (by omega) hq hQ
/-- take(wanted) -/
theorem c_Stake {f : Nat → Int} {L P : Nat} {l q w : Int} (hf : ∀ k, k < 120 → 0 ≤ f k ∧ f k ≤ 255) (hL : L ≤ 120) (hl : l = L) (hP : P ≤ L) (hq : q = P) (hw : pj_rg w)
    (h1 : sc_c f L P = w → Q (some (.inl 1)) (w_X l (((sc_p f L P : Nat) : Int) + 1) f)) (h0 : sc_c f L P ≠ w → Q (some (.inl 0)) (w_X l ((sc_p f L P : Nat) : Int) f)) : pj_ci X m_Script_take [.inr 0, .inl w] (w_X l q f) Q := by
  obtain ⟨hw1, hw2⟩ := hw
  have hr := sc_c_rg hf (P := P) hL
  have hp := sc_p_rg f hP
  refine wp_c rfl (by omega) [0, 1] (c_next hf hL hl hP hq ?_) rfl rfl rfl rfl
  refine wp_b rfl (by omega) (fun c => ?_) (fun c => ?_)
  · exact wp_r rfl (by omega) (h1 c)
  · exact wp_r rfl (by omega) (h0 c)
/-- takeDigit(least, most) -/
theorem c_takeDigit {f : Nat → Int} {L P : Nat} {l q a b : Int} (hf : ∀ k, k < 120 → 0 ≤ f k ∧ f k ≤ 255) (hL : L ≤ 120) (hl : l = L) (hP : P ≤ L) (hq : q = P) (ha : pj_rg a) (hb : pj_rg b)
    (h1 : a ≤ sc_c f L P - 48 → sc_c f L P - 48 ≤ b → Q (some (.inl (sc_c f L P - 48))) (w_X l (((sc_p f L P : Nat) : Int) + 1) f)) (h0 : (sc_c f L P - 48 < a ∨ b < sc_c f L P - 48) → Q (some (.inl (-1))) (w_X l ((sc_p f L P : Nat) : Int) f)) : pj_ci X m_Script_takeDigit [.inr 0, .inl a, .inl b] (w_X l q f) Q := by
  obtain ⟨ha1, ha2⟩ := ha
  obtain ⟨hb1, hb2⟩ := hb
  have hr := sc_c_rg hf (P := P) hL
  have hp := sc_p_rg f hP
  refine wp_c rfl (by omega) [0, 1] (c_next hf hL hl hP hq ?_) rfl rfl rfl rfl
  refine wp_b rfl (by omega) (fun c => ?_) (fun c => ?_)
  · exact wp_r rfl (by omega) (h0 (Or.inl (by omega)))
  · refine wp_b rfl (by omega) (fun c2 => ?_) (fun c2 => ?_)
    · exact wp_r rfl (by omega) (h1 (by omega) (by omega))
    · exact wp_r rfl (by omega) (h0 (Or.inr (by omega)))
/-- add(character) -/
theorem c_Sadd {f : Nat → Int} {L : Nat} {l z : Int} (hl : l = L) (hL : L ≤ 120)
    (h1 : L < 120 → Q (some (.inl 1)) [c_Sc (.inr 1) v_u (.inl (l + 1)) v_u v_u, c_A 120 (pj_up f L z)]) (h0 : L = 120 → Q (some (.inl 0)) [c_Sc (.inr 1) v_u (.inl l) v_u v_u, c_A 120 f]) : pj_ci X m_Script_add [.inr 0, .inl z] [c_Sc (.inr 1) v_u (.inl l) v_u v_u, c_A 120 f] Q := by
  refine wp_b rfl (by omega) (fun c => ?_) (fun c => ?_)
  · refine wp_c rfl (by omega) [1] (c_put (I := L) (by omega) hl (by omega) ?_) rfl rfl rfl rfl
    exact wp_r rfl (by omega) (h1 (by omega))
  · exact wp_r rfl (by omega) (h0 (by omega))
end SCRIPT
