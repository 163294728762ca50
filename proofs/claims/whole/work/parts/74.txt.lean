/-! THE MODEL's text: current, accept, index, readTerm -/
abbrev o_ch (l : Int) : pj_C := .inr (8, [v_u, v_u, v_u, v_u, v_u, v_u, .inr 1, .inl l, v_u, v_u, v_u, v_u, v_u, v_u, v_u, v_u, v_u, v_u, v_u, v_u, v_u, v_u, v_u, v_u, v_u, v_u, v_u, v_u])
abbrev o_cu (l q : Int) : pj_C := .inr (8, [v_u, v_u, v_u, v_u, v_u, v_u, .inr 1, .inl l, v_u, v_u, v_u, .inl q, v_u, v_u, v_u, v_u, v_u, v_u, v_u, v_u, v_u, v_u, v_u, v_u, v_u, v_u, v_u, v_u])
abbrev o_fi (e : Int) : pj_C := .inr (8, [v_u, v_u, v_u, v_u, v_u, v_u, v_u, v_u, v_u, v_u, v_u, v_u, .inl e, v_u, v_u, v_u, v_u, v_u, v_u, v_u, v_u, v_u, v_u, v_u, v_u, v_u, v_u, v_u])
abbrev o_ac (l q e : Int) : pj_C := .inr (8, [v_u, v_u, v_u, v_u, v_u, v_u, .inr 1, .inl l, v_u, v_u, v_u, .inl q, .inl e, v_u, v_u, v_u, v_u, v_u, v_u, v_u, v_u, v_u, v_u, v_u, v_u, v_u, v_u, v_u])
abbrev o_ix (l q e : Int) : pj_C := .inr (8, [v_u, .inr 1, v_u, v_u, v_u, v_u, .inr 2, .inl l, v_u, v_u, v_u, .inl q, .inl e, v_u, v_u, v_u, v_u, v_u, v_u, v_u, v_u, v_u, v_u, v_u, v_u, v_u, v_u, v_u])
abbrev o_rt (l q e : Int) : pj_C := .inr (8, [v_u, .inr 1, v_u, v_u, v_u, v_u, .inr 2, .inl l, v_u, v_u, v_u, .inl q, .inl e, v_u, .inr 3, v_u, v_u, v_u, v_u, v_u, v_u, v_u, v_u, v_u, v_u, v_u, v_u, v_u])
abbrev w_cu (l q : Int) (f : Nat → Int) : List pj_C := [o_cu l q, c_A 120 f]
abbrev w_ac (l q e : Int) (f : Nat → Int) : List pj_C := [o_ac l q e, c_A 120 f]
abbrev w_ix (s : Nat → Int) (l q e : Int) (f : Nat → Int) : List pj_C := [o_ix l q e, c_A 127 s, c_A 120 f]
abbrev w_rt (s : Nat → Int) (l q e : Int) (f gv : Nat → Int) : List pj_C := [o_rt l q e, c_A 127 s, c_A 120 f, c_A 125 gv]
section TXT
variable {X : pj_X} {Q : pj_Q} {p : Int} {N : Nat} {s : Nat → Int}
theorem sc_sk_end (f : Nat → Int) : ∀ (m P : Nat), sc_sk f m P = P + m ∨ f (sc_sk f m P) ≠ 32
  | 0, P => Or.inl rfl
  | m + 1, P => by
    unfold sc_sk
    by_cases h : f P = 32
    · rw [if_pos h]
      rcases sc_sk_end f m (P + 1) with e | e
      · exact Or.inl (by omega)
      · exact Or.inr e
    · rw [if_neg h]
      exact Or.inr h
theorem sc_p_idem (f : Nat → Int) {L P : Nat} (h : P ≤ L) : sc_p f L (sc_p f L P) = sc_p f L P := by
  have hr := sc_p_rg f h
  have he : sc_p f L P = P + (L - P) ∨ f (sc_p f L P) ≠ 32 := sc_sk_end f (L - P) P
  generalize sc_p f L P = R at hr he
  show sc_sk f (L - R) R = R
  by_cases hRL : R = L
  · rw [hRL, Nat.sub_self]
    rfl
  · have hn : f R ≠ 32 := he.resolve_left (by omega)
    rw [show L - R = (L - R - 1) + 1 by omega]
    unfold sc_sk
    rw [if_neg hn]
theorem sc_c_idem (f : Nat → Int) {L P : Nat} (h : P ≤ L) : sc_c f L (sc_p f L P) = sc_c f L P := by
  unfold sc_c
  rw [sc_p_idem f h]
theorem sc_t_idem (f : Nat → Int) {L P : Nat} {w : Int} (h : P ≤ L) : sc_t f L w (sc_p f L P) = sc_t f L w P := by
  unfold sc_t
  rw [sc_c_idem f h, sc_p_idem f h]
/-- characterAt(k) -/
theorem d_charAt {f : Nat → Int} {l k : Int} {L K : Nat} (hL : L ≤ 120) (hl : l = L) (hk : k = K) (hK : K ≤ 120) (hQ : Q (some (.inl (if K < L then f K else -1))) [o_ch l, c_A 120 f]) : pj_ci X m_Mo_characterAt [.inr 0, .inl k] [o_ch l, c_A 120 f] Q := by
  refine wp_b rfl (by omega) (fun c => ?_) (fun c => ?_)
  · refine wp_r rfl (by omega) ?_
    rw [if_neg (by omega)] at hQ
    exact hQ
  · refine wp_r rfl (by omega) ?_
    rw [if_pos (by omega)] at hQ
    rw [show k.toNat = K by omega]
    exact hQ
theorem d_cu_loop {f : Nat → Int} {L : Nat} {l : Int} (hf : ∀ k, k < 120 → 0 ≤ f k ∧ f k ≤ 255) (hL : L ≤ 120) (hl : l = L) :
    ∀ (m P : Nat) (q : Int), P + m = L → q = P → (Q (some (.inl (if sc_sk f m P < L then f (sc_sk f m P) else -1))) (w_cu l ((sc_sk f m P : Nat) : Int) f)) → pj_WP X m_Mo_current 0 [.inr 0] [] (w_cu l q f) Q := by
  intro m
  induction m with
  | zero =>
    intro P q hP hq hQ
    refine wp_c rfl (by omega) [0, 1] (d_charAt (K := P) hL hl hq (by omega) ?_) rfl rfl rfl rfl
    rw [if_neg (by omega)]
    refine wp_h (w_cu l q f) rfl ?_
    refine wp_b rfl (by omega) (fun c => ?_) (fun c => absurd c (by omega))
    refine wp_c rfl (by omega) [0, 1] (d_charAt (K := P) hL hl hq (by omega) ?_) rfl rfl rfl rfl
    refine wp_r rfl (by omega) ?_
    rw [hq]
    exact hQ
  | succ m ih =>
    intro P q hP hq hQ
    have h0 := hf P (by omega)
    refine wp_c rfl (by omega) [0, 1] (d_charAt (K := P) hL hl hq (by omega) ?_) rfl rfl rfl rfl
    rw [if_pos (by omega)]
    refine wp_h (w_cu l q f) rfl ?_
    refine wp_b rfl (by omega) (fun c => ?_) (fun c => ?_)
    · have e : sc_sk f (m + 1) P = P := if_neg c
      rw [e] at hQ
      refine wp_c rfl (by omega) [0, 1] (d_charAt (K := P) hL hl hq (by omega) ?_) rfl rfl rfl rfl
      refine wp_r rfl (by omega) ?_
      rw [hq]
      exact hQ
    · have e : sc_sk f (m + 1) P = sc_sk f m (P + 1) := if_pos (Decidable.of_not_not c)
      rw [e] at hQ
      refine wp_g rfl (by omega) ?_
      exact ih (P + 1) _ (by omega) (by omega) hQ
/-- current() -/
theorem d_current {f : Nat → Int} {L P : Nat} {l q : Int} (hf : ∀ k, k < 120 → 0 ≤ f k ∧ f k ≤ 255) (hL : L ≤ 120) (hl : l = L) (hP : P ≤ L) (hq : q = P) (hQ : Q (some (.inl (sc_c f L P))) (w_cu l ((sc_p f L P : Nat) : Int) f)) : pj_ci X m_Mo_current [.inr 0] (w_cu l q f) Q :=
  d_cu_loop hf hL hl (L - P) P q (by omega) hq hQ
/-- isFine() -/
theorem d_fine (hQ : Q (some (.inl 1)) [o_fi (-9)]) : pj_ci X m_Mo_isFine [.inr 0] [o_fi (-9)] Q := by
  refine wp_b rfl (by omega) (fun c => absurd rfl c) (fun c => ?_)
  exact wp_r rfl (by omega) hQ
theorem d_unfine {e : Int} (he : 0 ≤ e ∧ e ≤ 120) (hQ : Q (some (.inl 0)) [o_fi e]) : pj_ci X m_Mo_isFine [.inr 0] [o_fi e] Q := by
  refine wp_b rfl (by omega) (fun c => ?_) (fun c => absurd c (by omega))
  exact wp_r rfl (by omega) hQ
/-- accept(true) where all is fine -/
theorem d_acc1 {f : Nat → Int} {L P : Nat} {l q : Int} (hf : ∀ k, k < 120 → 0 ≤ f k ∧ f k ≤ 255) (hL : L ≤ 120) (hl : l = L) (hP : P ≤ L) (hq : q = P) (hQ : Q (some (.inl (sc_c f L P))) (w_ac l (((sc_p f L P : Nat) : Int) + 1) (-9) f)) : pj_ci X m_Mo_accept [.inr 0, .inl 1] (w_ac l q (-9) f) Q := by
  refine wp_c rfl (by omega) [0, 1] (d_current hf hL hl hP hq ?_) rfl rfl rfl rfl
  refine wp_h (w_ac l ((sc_p f L P : Nat) : Int) (-9) f) rfl ?_
  refine wp_c rfl (by omega) [0] (d_fine ?_) rfl rfl rfl rfl
  refine wp_h (w_ac l ((sc_p f L P : Nat) : Int) (-9) f) rfl ?_
  refine wp_b rfl (by omega) (fun c => absurd c (by omega)) (fun c => ?_)
  refine wp_b rfl (by omega) (fun c => absurd c (by omega)) (fun c => ?_)
  exact wp_r rfl (by omega) hQ
/-- accept(false) where all is fine -/
theorem d_acc0 {f : Nat → Int} {L P : Nat} {l q : Int} (hf : ∀ k, k < 120 → 0 ≤ f k ∧ f k ≤ 255) (hL : L ≤ 120) (hl : l = L) (hP : P ≤ L) (hq : q = P) (hQ : Q (some (.inl (sc_c f L P))) (w_ac l ((sc_p f L P : Nat) : Int) ((sc_p f L P : Nat) : Int) f)) : pj_ci X m_Mo_accept [.inr 0, .inl 0] (w_ac l q (-9) f) Q := by
  refine wp_c rfl (by omega) [0, 1] (d_current hf hL hl hP hq ?_) rfl rfl rfl rfl
  refine wp_h (w_ac l ((sc_p f L P : Nat) : Int) (-9) f) rfl ?_
  refine wp_c rfl (by omega) [0] (d_fine ?_) rfl rfl rfl rfl
  refine wp_h (w_ac l ((sc_p f L P : Nat) : Int) (-9) f) rfl ?_
  refine wp_b rfl (by omega) (fun c => absurd c (by omega)) (fun c => ?_)
  refine wp_b rfl (by omega) (fun c => ?_) (fun c => absurd rfl c)
  exact wp_r rfl (by omega) hQ
/-- accept(..) behind an error -/
theorem d_accN {f : Nat → Int} {L P : Nat} {l q e b : Int} (hf : ∀ k, k < 120 → 0 ≤ f k ∧ f k ≤ 255) (hL : L ≤ 120) (hl : l = L) (hP : P ≤ L) (hq : q = P) (he : 0 ≤ e ∧ e ≤ 120) (hQ : Q (some (.inl (sc_c f L P))) (w_ac l ((sc_p f L P : Nat) : Int) e f)) : pj_ci X m_Mo_accept [.inr 0, .inl b] (w_ac l q e f) Q := by
  refine wp_c rfl (by omega) [0, 1] (d_current hf hL hl hP hq ?_) rfl rfl rfl rfl
  refine wp_h (w_ac l ((sc_p f L P : Nat) : Int) e f) rfl ?_
  refine wp_c rfl (by omega) [0] (d_unfine he ?_) rfl rfl rfl rfl
  refine wp_h (w_ac l ((sc_p f L P : Nat) : Int) e f) rfl ?_
  refine wp_b rfl (by omega) (fun c => ?_) (fun c => absurd rfl c)
  exact wp_r rfl (by omega) hQ
/-- index() where all is fine -/
theorem d_index {f : Nat → Int} {L P : Nat} {l q : Int} (h1N : 1 ≤ N) (hN : N ≤ 5) (s1 : s 1 = (N : Int)) (hf : ∀ k, k < 120 → 0 ≤ f k ∧ f k ≤ 255) (hL : L ≤ 120) (hl : l = L) (hP : P ≤ L) (hq : q = P)
    (h1 : 0 ≤ (sc_d f L 0 ((N : Int) - 1) P).1 → Q (some (.inl (sc_d f L 0 ((N : Int) - 1) P).1)) (w_ix s l (((sc_d f L 0 ((N : Int) - 1) P).2 : Nat) : Int) (-9) f))
    (h0 : ∀ z : Int, (sc_d f L 0 ((N : Int) - 1) P).1 < 0 → -49 ≤ z → z ≤ 207 → Q (some (.inl z)) (w_ix s l (((sc_d f L 0 ((N : Int) - 1) P).2 : Nat) : Int) (((sc_d f L 0 ((N : Int) - 1) P).2 : Nat) : Int) f)) : pj_ci X m_Mo_index [.inr 0] (w_ix s l q (-9) f) Q := by
  have s1' : s (Int.toNat 1) = (N : Int) := s1
  have hr := sc_c_rg hf (P := P) hL
  have hp := sc_p_rg f hP
  refine wp_c rfl (by omega) [0, 2] (d_current hf hL hl hP hq ?_) rfl rfl rfl rfl
  refine wp_h (w_ix s l ((sc_p f L P : Nat) : Int) (-9) f) rfl ?_
  refine wp_c rfl (by omega) [] (d_in (by unfold pj_rg; omega) (by unfold pj_rg; omega) (by rw [s1']; unfold pj_rg; omega) (fun a b => ?_) (fun a => ?_)) rfl rfl rfl rfl
  · rw [s1'] at b
    refine wp_h (w_ix s l ((sc_p f L P : Nat) : Int) (-9) f) rfl ?_
    refine wp_c rfl (by omega) [0, 2] (d_acc1 hf hL hl hp.2 rfl ?_) rfl rfl rfl rfl
    rw [sc_c_idem f hP, sc_p_idem f hP]
    refine wp_r rfl (by omega) ?_
    unfold sc_d at h1
    rw [if_pos ⟨a, b⟩] at h1
    exact h1 a
  · rw [s1'] at a
    refine wp_h (w_ix s l ((sc_p f L P : Nat) : Int) (-9) f) rfl ?_
    refine wp_c rfl (by omega) [0, 2] (d_acc0 hf hL hl hp.2 rfl ?_) rfl rfl rfl rfl
    rw [sc_c_idem f hP, sc_p_idem f hP]
    refine wp_r rfl (by omega) ?_
    unfold sc_d at h0
    rw [if_neg (by omega)] at h0
    exact h0 _ (by omega) (by omega) (by omega)
/-- index() behind an error -/
theorem d_indexN {f : Nat → Int} {L P : Nat} {l q e : Int} (h1N : 1 ≤ N) (hN : N ≤ 5) (s1 : s 1 = (N : Int)) (hf : ∀ k, k < 120 → 0 ≤ f k ∧ f k ≤ 255) (hL : L ≤ 120) (hl : l = L) (hP : P ≤ L) (hq : q = P) (he : 0 ≤ e ∧ e ≤ 120)
    (h0 : ∀ (z : Int) (P' : Nat), -49 ≤ z → z ≤ 207 → P' ≤ L → Q (some (.inl z)) (w_ix s l (P' : Int) e f)) : pj_ci X m_Mo_index [.inr 0] (w_ix s l q e f) Q := by
  have s1' : s (Int.toNat 1) = (N : Int) := s1
  have hr := sc_c_rg hf (P := P) hL
  have hp := sc_p_rg f hP
  refine wp_c rfl (by omega) [0, 2] (d_current hf hL hl hP hq ?_) rfl rfl rfl rfl
  refine wp_h (w_ix s l ((sc_p f L P : Nat) : Int) e f) rfl ?_
  have fin : ∀ b : Int, pj_WP X m_Mo_index 20 [.inr 0] [.inl b, .inr 0] (w_ix s l ((sc_p f L P : Nat) : Int) e f) Q := fun b => by
    refine wp_c rfl (by omega) [0, 2] (d_accN hf hL hl hp.2 rfl he ?_) rfl rfl rfl rfl
    rw [sc_c_idem f hP, sc_p_idem f hP]
    exact wp_r rfl (by omega) (h0 _ _ (by omega) (by omega) hp.2)
  refine wp_c rfl (by omega) [] (d_in (by unfold pj_rg; omega) (by unfold pj_rg; omega) (by rw [s1']; unfold pj_rg; omega) (fun a b => ?_) (fun a => ?_)) rfl rfl rfl rfl
  · exact fin _
  · exact fin _
/-- one term of a value: (fine, coordinate, factor, position) -/
def tm_E (f : Nat → Int) (L : Nat) (p : Int) (P : Nat) : Bool × Nat := sc_t f L 101 (sc_d f L 1 (p - 1) P).2
def tm_G (f : Nat → Int) (L : Nat) (p : Int) (N P : Nat) : Int × Nat := sc_d f L 0 ((N : Int) - 1) (tm_E f L p P).2
def tm_f (f : Nat → Int) (L : Nat) (p s : Int) (P : Nat) : Int := if 0 ≤ (sc_d f L 1 (p - 1) P).1 then s * (sc_d f L 1 (p - 1) P).1 else s
set_option maxHeartbeats 1000000 in
/-- readTerm(to, sign), which begins where all is fine -/
theorem d_readTerm {f gv : Nat → Int} {L P TO : Nat} {l q to sg : Int} (hp : nn_p p) (h1N : 1 ≤ N) (hN : N ≤ 5) (s0 : s 0 = p) (s1 : s 1 = (N : Int)) (hf : ∀ k, k < 120 → 0 ≤ f k ∧ f k ≤ 255) (hL : L ≤ 120) (hl : l = L) (hP : P ≤ L) (hq : q = P) (hto : to = TO) (hTO : TO ≤ 120) (hsg : sg = 1 ∨ sg = -1) (hgv : ∀ k, k < N → 0 ≤ gv (TO + k) ∧ gv (TO + k) < p)
    (h1 : (tm_E f L p P).1 = true → 0 ≤ (tm_G f L p N P).1 → Q none (w_rt s l (((tm_G f L p N P).2 : Nat) : Int) (-9) f (pj_up gv (TO + (tm_G f L p N P).1.toNat) ((gv (TO + (tm_G f L p N P).1.toNat) + tm_f f L p sg P) % p))))
    (h0 : ∀ (E P' : Nat), E ≤ L → P' ≤ L → (((tm_E f L p P).1 = false ∧ E = (tm_E f L p P).2) ∨ ((tm_E f L p P).1 = true ∧ (tm_G f L p N P).1 < 0 ∧ E = (tm_G f L p N P).2)) → Q none (w_rt s l (P' : Int) (E : Int) f gv)) : pj_ci X m_Mo_readTerm [.inr 0, .inl to, .inl sg] (w_rt s l q (-9) f gv) Q := by
  obtain ⟨hp1, hp2, hp3⟩ := nn_p_pos hp
  have s0' : s (Int.toNat 0) = p := s0
  have hr := sc_c_rg hf (P := P) hL
  have hpp := sc_p_rg f hP
  have d1 := sc_d_le (f := f) (b := p - 1) (show (0 : Int) ≤ 1 by omega) hP
  have d2 := sc_d_rg (f := f) (L := L) (P := P) (b := p - 1) (show (0 : Int) ≤ 1 by omega)
  have hfac : -7 ≤ tm_f f L p sg P ∧ tm_f f L p sg P ≤ 7 := by
    unfold tm_f
    rcases hsg with h | h <;> rw [h] <;> split <;> omega
  have b1 := sc_t_le (f := f) (show (0 : Int) ≤ 101 by omega) d1
  have b1' : (tm_E f L p P).2 ≤ L := b1
  have g1 := sc_d_le (f := f) (b := (N : Int) - 1) (show (0 : Int) ≤ 0 by omega) b1'
  have g2 := sc_d_rg (f := f) (L := L) (P := (tm_E f L p P).2) (b := (N : Int) - 1) (show (0 : Int) ≤ 0 by omega)
  -- behind the factor
  have half : ∀ (fc q1 : Int) (P1 : Nat), q1 = P1 → P1 ≤ L → sg * fc = tm_f f L p sg P → sc_t f L 101 P1 = tm_E f L p P → pj_WP X m_Mo_readTerm 42 [.inr 0, .inl to, .inl sg, .inl fc, v_u] [.inr 0, .inr 0] (w_rt s l q1 (-9) f gv) Q := by
    intro fc q1 P1 hq1 hP1 hfc hE
    have hr1 := sc_c_rg hf (P := P1) hL
    have hp1' := sc_p_rg f hP1
    refine wp_c rfl (by omega) [0, 2] (d_current hf hL hl hP1 hq1 ?_) rfl rfl rfl rfl
    refine wp_h (w_rt s l ((sc_p f L P1 : Nat) : Int) (-9) f gv) rfl ?_
    refine wp_b rfl (by omega) (fun c => ?_) (fun c => ?_)
    · -- no e
      have hE' : tm_E f L p P = (false, sc_p f L P1) := by rw [← hE]; unfold sc_t; rw [if_neg c]
      refine wp_c rfl (by omega) [0, 2] (d_acc0 hf hL hl hp1'.2 rfl ?_) rfl rfl rfl rfl
      rw [sc_p_idem f hP1]
      refine wp_h (w_rt s l ((sc_p f L P1 : Nat) : Int) ((sc_p f L P1 : Nat) : Int) f gv) rfl ?_
      refine wp_c rfl (by omega) [0, 1, 2] (d_indexN h1N hN s1 hf hL hl hp1'.2 rfl (by omega) (fun z P' z1 z2 hP' => ?_)) rfl rfl rfl rfl
      refine wp_h (w_rt s l (P' : Int) ((sc_p f L P1 : Nat) : Int) f gv) rfl ?_
      refine wp_c rfl (by omega) [0] (d_unfine (by omega) ?_) rfl rfl rfl rfl
      refine wp_h (w_rt s l (P' : Int) ((sc_p f L P1 : Nat) : Int) f gv) rfl ?_
      refine wp_b rfl (by omega) (fun _ => ?_) (fun c => absurd rfl c)
      exact wp_r rfl (by omega) (h0 _ P' hp1'.2 hP' (Or.inl ⟨by rw [hE'], by rw [hE']⟩))
    · have c := Decidable.of_not_not c
      have hE' : tm_E f L p P = (true, sc_p f L P1 + 1) := by rw [← hE]; unfold sc_t; rw [if_pos c]
      have hE2 : (tm_E f L p P).2 = sc_p f L P1 + 1 := by rw [hE']
      have hE1 : (tm_E f L p P).1 = true := by rw [hE']
      refine wp_c rfl (by omega) [0, 2] (d_acc1 hf hL hl hp1'.2 rfl ?_) rfl rfl rfl rfl
      rw [sc_p_idem f hP1]
      refine wp_h (w_rt s l (((sc_p f L P1 : Nat) : Int) + 1) (-9) f gv) rfl ?_
      have eG : sc_d f L 0 ((N : Int) - 1) (sc_p f L P1 + 1) = tm_G f L p N P := by unfold tm_G; rw [hE2]
      rw [hE2] at g1 g2
      rw [eG] at g1 g2
      refine wp_c rfl (by omega) [0, 1, 2] (d_index (P := sc_p f L P1 + 1) h1N hN s1 hf hL hl (by rw [← hE2]; exact b1') (by omega) (fun hge => ?_) (fun z hlt z1 z2 => ?_)) rfl rfl rfl rfl
      · rw [eG] at hge
        rw [eG]
        refine wp_h (w_rt s l (((tm_G f L p N P).2 : Nat) : Int) (-9) f gv) rfl ?_
        refine wp_c rfl (by omega) [0] (d_fine ?_) rfl rfl rfl rfl
        refine wp_h (w_rt s l (((tm_G f L p N P).2 : Nat) : Int) (-9) f gv) rfl ?_
        refine wp_b rfl (by omega) (fun c => absurd c (by omega)) (fun _ => ?_)
        have ei : (to + (tm_G f L p N P).1).toNat = TO + (tm_G f L p N P).1.toNat := by omega
        have hv := hgv (tm_G f L p N P).1.toNat (by omega)
        refine wp_c rfl (by omega) [0, 1] (d_mod hp s0 (by rw [ei, hfc]; unfold pj_rg; omega) ?_) rfl rfl rfl rfl
        rw [ei, hfc]
        refine wp_h (w_rt s l (((tm_G f L p N P).2 : Nat) : Int) (-9) f gv) rfl ?_
        refine wp_r rfl (by omega) ?_
        have h9 := h1 hE1 hge
        rw [← ei] at h9 ⊢
        exact h9
      · rw [eG] at hlt
        rw [eG]
        refine wp_h (w_rt s l (((tm_G f L p N P).2 : Nat) : Int) (((tm_G f L p N P).2 : Nat) : Int) f gv) rfl ?_
        refine wp_c rfl (by omega) [0] (d_unfine (by omega) ?_) rfl rfl rfl rfl
        refine wp_h (w_rt s l (((tm_G f L p N P).2 : Nat) : Int) (((tm_G f L p N P).2 : Nat) : Int) f gv) rfl ?_
        refine wp_b rfl (by omega) (fun _ => ?_) (fun c => absurd rfl c)
        exact wp_r rfl (by omega) (h0 _ _ g1 g1 (Or.inr ⟨hE1, hlt, rfl⟩))
  refine wp_c rfl (by omega) [0] (d_fine ?_) rfl rfl rfl rfl
  refine wp_h (w_rt s l q (-9) f gv) rfl ?_
  refine wp_b rfl (by omega) (fun c => absurd c (by omega)) (fun _ => ?_)
  refine wp_c rfl (by omega) [0, 2] (d_current hf hL hl hP hq ?_) rfl rfl rfl rfl
  refine wp_h (w_rt s l ((sc_p f L P : Nat) : Int) (-9) f gv) rfl ?_
  refine wp_c rfl (by omega) [] (d_in (by unfold pj_rg; omega) (by unfold pj_rg; omega) (by rw [s0']; unfold pj_rg; omega) (fun a b => ?_) (fun a => ?_)) rfl rfl rfl rfl
  · rw [s0'] at b
    have hD : sc_d f L 1 (p - 1) P = (sc_c f L P - 48, sc_p f L P + 1) := by unfold sc_d; rw [if_pos ⟨a, b⟩]
    refine wp_h (w_rt s l ((sc_p f L P : Nat) : Int) (-9) f gv) rfl ?_
    refine wp_b rfl (by omega) (fun c => absurd c (by omega)) (fun _ => ?_)
    refine wp_c rfl (by omega) [0, 2] (d_acc1 hf hL hl hpp.2 rfl ?_) rfl rfl rfl rfl
    rw [sc_p_idem f hP, sc_c_idem f hP]
    refine wp_h (w_rt s l (((sc_p f L P : Nat) : Int) + 1) (-9) f gv) rfl ?_
    have hpl := sc_c_end (f := f) (L := L) (P := P) (by omega)
    refine wp_g rfl (by omega) ?_
    refine half _ _ (sc_p f L P + 1) (by omega) (by omega) ?_ ?_
    · unfold tm_f
      rw [hD, if_pos (by omega)]
    · unfold tm_E
      rw [hD]
  · rw [s0'] at a
    have hD : sc_d f L 1 (p - 1) P = (-1, sc_p f L P) := by unfold sc_d; rw [if_neg (by omega)]
    refine wp_h (w_rt s l ((sc_p f L P : Nat) : Int) (-9) f gv) rfl ?_
    refine wp_b rfl (by omega) (fun _ => ?_) (fun c => absurd rfl c)
    refine wp_g rfl (by omega) ?_
    refine half _ _ (sc_p f L P) rfl hpp.2 ?_ ?_
    · unfold tm_f
      rw [hD, if_neg (by omega), Int.mul_one]
    · unfold tm_E
      rw [hD]
end TXT
