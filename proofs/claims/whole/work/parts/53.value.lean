/-! Script.readValue -/
section VALUE
variable {X : pj_X} {Q : pj_Q}
/-- take, on positions -/
def sc_t (f : Nat → Int) (L : Nat) (w : Int) (P : Nat) : Bool × Nat := if sc_c f L P = w then (true, sc_p f L P + 1) else (false, sc_p f L P)
/-- takeDigit, on positions -/
def sc_d (f : Nat → Int) (L : Nat) (a b : Int) (P : Nat) : Int × Nat := if a ≤ sc_c f L P - 48 ∧ sc_c f L P - 48 ≤ b then (sc_c f L P - 48, sc_p f L P + 1) else (-1, sc_p f L P)
theorem sc_c_end {f : Nat → Int} {L P : Nat} (hc : 0 ≤ sc_c f L P) : sc_p f L P < L := by
  unfold sc_c at hc
  by_cases h : sc_p f L P < L
  · exact h
  · rw [if_neg h] at hc
    omega
theorem sc_t_le {f : Nat → Int} {L P : Nat} {w : Int} (hw : 0 ≤ w) (hP : P ≤ L) : (sc_t f L w P).2 ≤ L := by
  have h := (sc_p_rg f hP).2
  unfold sc_t
  by_cases e : sc_c f L P = w
  · rw [if_pos e]
    exact sc_c_end (by omega)
  · rw [if_neg e]
    exact h
theorem sc_d_le {f : Nat → Int} {L P : Nat} {a b : Int} (ha : 0 ≤ a) (hP : P ≤ L) : (sc_d f L a b P).2 ≤ L := by
  have h := (sc_p_rg f hP).2
  unfold sc_d
  by_cases e : a ≤ sc_c f L P - 48 ∧ sc_c f L P - 48 ≤ b
  · rw [if_pos e]
    exact sc_c_end (by omega)
  · rw [if_neg e]
    exact h
theorem sc_d_rg {f : Nat → Int} {L P : Nat} {a b : Int} (ha : 0 ≤ a) : (sc_d f L a b P).1 = -1 ∨ (a ≤ (sc_d f L a b P).1 ∧ (sc_d f L a b P).1 ≤ b) := by
  unfold sc_d
  by_cases e : a ≤ sc_c f L P - 48 ∧ sc_c f L P - 48 ≤ b
  · rw [if_pos e]
    exact Or.inr e
  · rw [if_neg e]
    exact Or.inl rfl
/-- take, told by sc_t -/
theorem c_Stake2 {f : Nat → Int} {L P : Nat} {l q w : Int} (hf : ∀ k, k < 120 → 0 ≤ f k ∧ f k ≤ 255) (hL : L ≤ 120) (hl : l = L) (hP : P ≤ L) (hq : q = P) (hw : pj_rg w)
    (h1 : (sc_t f L w P).1 = true → Q (some (.inl 1)) (w_X l (((sc_t f L w P).2 : Nat) : Int) f)) (h0 : (sc_t f L w P).1 = false → Q (some (.inl 0)) (w_X l (((sc_t f L w P).2 : Nat) : Int) f)) : pj_ci X m_Script_take [.inr 0, .inl w] (w_X l q f) Q := by
  refine c_Stake hf hL hl hP hq hw (fun c => ?_) (fun c => ?_)
  · unfold sc_t at h1
    rw [if_pos c] at h1
    exact h1 rfl
  · unfold sc_t at h0
    rw [if_neg c] at h0
    exact h0 rfl
/-- takeDigit, told by sc_d -/
theorem c_takeDigit2 {f : Nat → Int} {L P : Nat} {l q a b : Int} (hf : ∀ k, k < 120 → 0 ≤ f k ∧ f k ≤ 255) (hL : L ≤ 120) (hl : l = L) (hP : P ≤ L) (hq : q = P) (ha : pj_rg a) (hb : pj_rg b)
    (h : Q (some (.inl (sc_d f L a b P).1)) (w_X l (((sc_d f L a b P).2 : Nat) : Int) f)) : pj_ci X m_Script_takeDigit [.inr 0, .inl a, .inl b] (w_X l q f) Q := by
  refine c_takeDigit hf hL hl hP hq ha hb (fun c c2 => ?_) (fun c => ?_)
  · unfold sc_d at h
    rw [if_pos ⟨c, c2⟩] at h
    exact h
  · unfold sc_d at h
    rw [if_neg (by omega)] at h
    exact h
end VALUE
