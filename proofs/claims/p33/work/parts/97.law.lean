/-! the law, from the last change of the basis back to its entry -/
/-- block r of a shelf is a table -/
def zh_b (p : Int) (N : Nat) (T : Nat → Nat → Nat → Int) (f : Nat → Int) (r : Nat) : Prop := f (27 * r) = p ∧ f (27 * r + 1) = N ∧ tt_br p N T (fun q => f (27 * r + 2 + q))
section LAW
variable {X : pj_X} {Q : pj_Q} {k p n a1 a2 a3 b1 b2 b3 e1 e2 e3 g1 g2 g3 q1 q2 q3 d1 d2 l sq sg t1 t2 : Int} {N : Nat} {T : Nat → Nat → Nat → Int} {br fW f1 f2 fr fq dr nf ng ft dt f fs : Nat → Int}
theorem zh_put {K : Nat} (hb : tt_br p N T br) (hn : n = N) : zh_b p N T (sh_k f K p n br) K := by
  refine ⟨?_, ?_, fun i j hi hj => ?_⟩
  · rw [sh_k_at, if_neg (by omega), if_neg (by omega), if_pos rfl]
  · rw [sh_k_at, if_neg (by omega), if_pos rfl, hn]
  · show sh_k f K p n br (27 * K + 2 + (5 * i + j)) = _
    rw [sh_k_at, if_pos (by omega), show 27 * K + 2 + (5 * i + j) - (27 * K + 2) = 5 * i + j by omega]
    exact hb i j hi hj
theorem zh_same {f' : Nat → Int} {r r' : Nat} (h : zh_b p N T f r) (hf : ∀ q, q < 27 → f' (27 * r' + q) = f (27 * r + q)) : zh_b p N T f' r' := by
  obtain ⟨h0, h1, h2⟩ := h
  refine ⟨?_, ?_, fun i j hi hj => ?_⟩
  · have h9 := hf 0 (by omega)
    rw [Nat.add_zero, Nat.add_zero] at h9
    rw [h9, h0]
  · rw [hf 1 (by omega), h1]
  · show f' (27 * r' + 2 + (5 * i + j)) = _
    rw [Nat.add_assoc, hf (2 + (5 * i + j)) (by omega), ← Nat.add_assoc]
    exact h2 i j hi hj
theorem zh_push {D E : Nat} (hb : tt_br p N T br) (hn : n = N) (hD : D ≤ 6) (hE : E + 1 = if D = 6 then 6 else D + 1) : zh_b p N T (hk_f D f p n br) E := by
  unfold hk_f
  by_cases e : D = 6
  · rw [if_pos e] at hE ⊢
    rw [show E = 5 by omega]
    exact zh_put hb hn
  · rw [if_neg e] at hE ⊢
    rw [show E = D by omega]
    exact zh_put hb hn
theorem zh_old {D E M : Nat} {q : Int} {T0 : Nat → Nat → Nat → Int} (h : zh_b q M T0 f E) (hD : D ≤ 6) (hE : E + 1 = D) {E2 : Nat} (hE2 : E2 + 2 = if D = 6 then 6 else D + 1) : zh_b q M T0 (hk_f D f p n br) E2 := by
  unfold hk_f
  by_cases e : D = 6
  · rw [if_pos e] at hE2 ⊢
    refine zh_same h (fun q hq => ?_)
    rw [sh_k_at, if_neg (by omega), if_neg (by omega), if_neg (by omega)]
    unfold va_cpy
    rw [if_pos (by omega), show 27 + (27 * E2 + q - 0) = 27 * E + q by omega]
  · rw [if_neg e] at hE2 ⊢
    refine zh_same h (fun q hq => ?_)
    rw [sh_k_at, if_neg (by omega), if_neg (by omega), if_neg (by omega), show 27 * E2 + q = 27 * E + q by omega]
theorem zh_get {r : Nat} (h : zh_b p N T f r) : tt_br p N T (va_cpy f br (27 * r + 2) 0 25) := fun i j hi hj => by
  unfold va_cpy
  rw [if_pos (by omega), show 27 * r + 2 + (5 * i + j - 0) = 27 * r + 2 + (5 * i + j) by omega]
  exact h.2.2 i j hi hj
theorem w_end (ht : tt_ok p N T) (hn : n = N) {I J : Nat} {i j : Int} (hi : i = I) (hj : j = J) (hI : I < N) (hJ : J < N) (hne : I ≠ J) (hb : tt_br p N (ch_T p N T (ch_x I J) (ch_x I J)) br) {W K : Nat} (hW : W = zg p N T) (gW : 2000 ≤ W) (gK : 2000 ≤ K) {D E : Nat} (hk : k = D) (hD : D ≤ 6) (hE : E + 1 = D) (hf1 : zh_b p N T f E) (hs1 : zh_b p N (ch_T p N T (ch_x I J) (ch_x I J)) fs 1) (hs0 : fs 0 = 0) {wh al y c inv : Int} (hQ : ∀ (k p n a1 a2 a3 b1 b2 b3 e1 e2 e3 g1 g2 g3 q1 q2 q3 d1 d2 l sq sg t1 t2 : Int) (br fW f1 f2 fr fq dr nf ng ft dt f fs : Nat → Int), Q (some (.inl 1)) (wP k p n a1 a2 a3 b1 b2 b3 e1 e2 e3 g1 g2 g3 q1 q2 q3 d1 d2 l sq sg t1 t2 br fW f1 f2 fr fq dr nf ng ft dt f fs)) : pj_WT X m_Lw_law 493 [.inr 1002, .inr 0, .inl wh, .inl p, .inl n, .inl al, .inr W, .inr 1000, .inr K, .inr 1000, .inl y, .inl i, .inl j, .inl c, .inl inv, .inr 1000, .inr 1000] [] (wP k p n a1 a2 a3 b1 b2 b3 e1 e2 e3 g1 g2 g3 q1 q2 q3 d1 d2 l sq sg t1 t2 br fW f1 f2 fr fq dr nf ng ft dt f fs) Q := by
  obtain ⟨hp, h1N, hN, hT, -⟩ := id ht
  obtain ⟨hp1, hp2, hp3⟩ := nn_p_pos hp
  have hpw := nn_pwle hp N hN
  have ht5 := ch_ok ht (ch_x I J) (ch_x I J)
  have hxx := zb_swp (p := p) hI hJ hne
  have hxy := zb_swp (p := p) hJ hI (Ne.symm hne)
  have hbk : ch_T p N (ch_T p N T (ch_x I J) (ch_x I J)) (ch_x J I) (ch_x J I) = T := zb_back ht (fun k hk => (hxx k hk).1) (fun k hk => (hxx k hk).1) (fun k hk => (hxy k hk).1) (fun k hk => (hxx k hk).2)
  refine wt_c rfl (by omega) (g_digest ht5 hb hn (fun Z hZ gZ => ⟨Or.inl rfl, ?_⟩))
  refine wt_n [.inr Z] (wP k p n a1 a2 a3 b1 b2 b3 e1 e2 e3 g1 g2 g3 q1 q2 q3 d1 d2 l sq sg t1 t2 br fW f1 f2 fr fq dr nf ng ft dt f fs) rfl rfl ?_
  refine wt_f rfl (by omega) [0, 1, 2, 24, 25, 15, 16, 17, 18, 19] (l_swapBasis ht5 hb hn hk hD ⟨by omega, by omega⟩ ⟨by omega, by omega⟩ (fun h => absurd ⟨⟨by omega, by omega⟩, ⟨by omega, by omega⟩, by omega⟩ h) (fun I' J' br' dr nf ng hI' hJ' hI2 hJ2 hne2 hbr => ?_)) rfl rfl rfl rfl
  have eI : I' = J := by omega
  have eJ : J' = I := by omega
  subst eI eJ
  have hrn := fun q (_ : q < N) => (ch_ok ht5 (ch_x I' J') (ch_x I' J')).2.2.2.1 I' J' q
  obtain ⟨r1, r2⟩ := or_nm hp hN hrn
  have r3 := (nn_nm_rg hp1 N hrn).1
  refine wt_n [.inl (nn_nm p N (ch_T p N (ch_T p N T (ch_x J' I') (ch_x J' I')) (ch_x I' J') (ch_x I' J') I' J'))] (wP ((if D = 6 then 6 else k + 1)) p n a1 a2 a3 b1 b2 b3 e1 e2 e3 g1 g2 g3 q1 q2 q3 p n l sq sg t1 t2 br' fW f1 f2 fr fq dr nf ng ft dt ((hk_f D f p n br)) fs) rfl rfl ?_
  refine wt_b rfl (by omega) (fun ee => absurd ee (by omega)) (fun ee => ?_)
  rw [hbk] at hbr
  obtain ⟨E', hE'⟩ : ∃ E' : Nat, E' + 2 = if D = 6 then 6 else D + 1 := ⟨(if D = 6 then 6 else D + 1) - 2, by split <;> omega⟩
  have hb1 := zh_push (f := f) hb hn hD (E := E' + 1) (by rw [← hE'])
  have hb2 := zh_old (p := p) (n := n) (br := br) hf1 hD hE hE'
  have hkD : (if D = 6 then 6 else k + 1) = ((E' + 2 : Nat) : Int) := by rw [hE']; split <;> omega
  generalize hk_f D f p n br = f at hb1 hb2 ⊢
  rw [hkD]
  refine wt_c rfl (by omega) (g_digest ht hbr hn (fun C1 hC1 gC1 => ⟨Or.inl rfl, ?_⟩))
  refine wt_n [.inr C1] (wP (((E' + 2 : Nat) : Int)) p n a1 a2 a3 b1 b2 b3 e1 e2 e3 g1 g2 g3 q1 q2 q3 p n l sq sg t1 t2 br' fW f1 f2 fr fq dr nf ng ft dt f fs) rfl rfl ?_
  have qC1 : C1 = W := by rw [hC1, ← hW]
  rw [qC1]
  refine wt_b rfl (by omega) (fun ee => absurd rfl ee) (fun ee => ?_)
  refine wt_f rfl (by omega) [0, 1, 2, 24, 25] (l_undo (D := E' + 2) rfl (by split at hE' <;> omega) (fun h => absurd h (by omega)) (fun E2 hE2 => ?_)) rfl rfl rfl rfl
  have eE : E2 = E' + 1 := by omega
  subst eE
  refine wt_n [.inl ((E' + 1 : Nat) : Int)] (wP (((E' + 1 : Nat) : Int)) ((f (27 * (E' + 1)))) ((f (27 * (E' + 1) + 1))) a1 a2 a3 b1 b2 b3 e1 e2 e3 g1 g2 g3 q1 q2 q3 p n l sq sg t1 t2 ((va_cpy f br' (27 * (E' + 1) + 2) 0 25)) fW f1 f2 fr fq dr nf ng ft dt f fs) rfl rfl ?_
  have hb5 := zh_get (br := br') hb1
  generalize va_cpy f br' (27 * (E' + 1) + 2) 0 25 = br5 at hb5 ⊢
  rw [hb1.1, hb1.2.1, ← hn]
  refine wt_b rfl (by omega) (fun ee => absurd ee (by omega)) (fun ee => ?_)
  refine wt_c rfl (by omega) (g_digest ht5 hb5 hn (fun C2 hC2 gC2 => ⟨Or.inl rfl, ?_⟩))
  refine wt_n [.inr C2] (wP (((E' + 1 : Nat) : Int)) p n a1 a2 a3 b1 b2 b3 e1 e2 e3 g1 g2 g3 q1 q2 q3 p n l sq sg t1 t2 br5 fW f1 f2 fr fq dr nf ng ft dt f fs) rfl rfl ?_
  have qC2 : C2 = Z := by rw [hC2, ← hZ]
  rw [qC2]
  refine wt_b rfl (by omega) (fun ee => absurd rfl ee) (fun ee => ?_)
  refine wt_f rfl (by omega) [0, 1, 2, 24, 25] (l_undo (D := E' + 1) rfl (by split at hE' <;> omega) (fun h => absurd h (by omega)) (fun E2 hE2 => ?_)) rfl rfl rfl rfl
  have eE : E2 = E' := by omega
  subst eE
  refine wt_n [.inl (E2 : Int)] (wP ((E2 : Int)) ((f (27 * E2))) ((f (27 * E2 + 1))) a1 a2 a3 b1 b2 b3 e1 e2 e3 g1 g2 g3 q1 q2 q3 p n l sq sg t1 t2 ((va_cpy f br5 (27 * E2 + 2) 0 25)) fW f1 f2 fr fq dr nf ng ft dt f fs) rfl rfl ?_
  have hb6 := zh_get (br := br5) hb2
  generalize va_cpy f br5 (27 * E2 + 2) 0 25 = br6 at hb6 ⊢
  rw [hb2.1, hb2.2.1, ← hn]
  refine wt_b rfl (by omega) (fun ee => absurd ee (by omega)) (fun ee => ?_)
  refine wt_c rfl (by omega) (g_digest ht hb6 hn (fun C3 hC3 gC3 => ⟨Or.inl rfl, ?_⟩))
  refine wt_n [.inr C3] (wP ((E2 : Int)) p n a1 a2 a3 b1 b2 b3 e1 e2 e3 g1 g2 g3 q1 q2 q3 p n l sq sg t1 t2 br6 fW f1 f2 fr fq dr nf ng ft dt f fs) rfl rfl ?_
  have qC3 : C3 = W := by rw [hC3, ← hW]
  rw [qC3]
  refine wt_b rfl (by omega) (fun ee => ?_) (fun ee => absurd rfl ee)
  refine wt_f rfl (by omega) [0, 1, 2, 24, 25] (l_setBracket ht hb6 hn (D := E2) rfl (by split at hE' <;> omega) ⟨by omega, by omega⟩ ⟨by omega, by omega⟩ ⟨by omega, by omega⟩ (fun _ => ?_) (fun I2 J2 b2 x1 x2 x3 x4 x5 => absurd (by omega) x5)) rfl rfl rfl rfl
  refine wt_n [.inl (-1)] (wP ((E2 : Int)) p n a1 a2 a3 b1 b2 b3 e1 e2 e3 g1 g2 g3 q1 q2 q3 p n l sq sg t1 t2 br6 fW f1 f2 fr fq dr nf ng ft dt f fs) rfl rfl ?_
  refine wt_b rfl (by omega) (fun ee => absurd rfl ee) (fun ee => ?_)
  refine wt_c rfl (by omega) (g_digest ht hb6 hn (fun C4 hC4 gC4 => ⟨Or.inl rfl, ?_⟩))
  refine wt_n [.inr C4] (wP ((E2 : Int)) p n a1 a2 a3 b1 b2 b3 e1 e2 e3 g1 g2 g3 q1 q2 q3 p n l sq sg t1 t2 br6 fW f1 f2 fr fq dr nf ng ft dt f fs) rfl rfl ?_
  have qC4 : C4 = W := by rw [hC4, ← hW]
  rw [qC4]
  refine wt_b rfl (by omega) (fun ee => absurd rfl ee) (fun ee => ?_)
  refine wt_f rfl (by omega) [0, 1, 2, 26, 27] (l_restore ⟨by omega, by omega⟩ (fun r hr => ?_) (fun h => absurd ⟨by omega, by omega⟩ h) (fun Z2 hZ2 hZ3 hZ4 => ?_) (fun Z2 hZ2 hZ3 hZ4 => ?_)) rfl rfl rfl rfl
  · rcases (by omega : r = 0 ∨ r = 1) with e | e
    · subst e; rw [show 27 * 0 = 0 from rfl, hs0]; omega
    · subst e; rw [hs1.1]; omega
  · have eZ : Z2 = 1 := by omega
    subst eZ
    rw [hs1.1] at hZ4
    omega
  have eZ : Z2 = 1 := by omega
  subst eZ
  refine wt_n [.inl (fs (27 * 1 + 1))] (wP 0 ((fs (27 * 1))) ((fs (27 * 1 + 1))) a1 a2 a3 b1 b2 b3 e1 e2 e3 g1 g2 g3 q1 q2 q3 p n l sq sg t1 t2 ((va_cpy fs br6 (27 * 1 + 2) 0 25)) fW f1 f2 fr fq dr nf ng ft dt f fs) rfl rfl ?_
  have hb7 := zh_get (br := br6) hs1
  generalize va_cpy fs br6 (27 * 1 + 2) 0 25 = br7 at hb7 ⊢
  rw [hs1.1, hs1.2.1, ← hn]
  refine wt_b rfl (by omega) (fun ee => absurd rfl ee) (fun ee => ?_)
  refine wt_c rfl (by omega) (g_digest ht5 hb7 hn (fun C5 hC5 gC5 => ⟨Or.inl rfl, ?_⟩))
  refine wt_n [.inr C5] (wP 0 p n a1 a2 a3 b1 b2 b3 e1 e2 e3 g1 g2 g3 q1 q2 q3 p n l sq sg t1 t2 br7 fW f1 f2 fr fq dr nf ng ft dt f fs) rfl rfl ?_
  have qC5 : C5 = Z := by rw [hC5, ← hZ]
  rw [qC5]
  refine wt_b rfl (by omega) (fun ee => absurd rfl ee) (fun ee => ?_)
  refine wt_f rfl (by omega) [0, 1, 2, 24, 25] (l_undo (D := 0) rfl (by omega) (fun _ => ?_) (fun E3 hE3 => absurd hE3 (by omega))) rfl rfl rfl rfl
  refine wt_n [.inl (-2)] (wP 0 p n a1 a2 a3 b1 b2 b3 e1 e2 e3 g1 g2 g3 q1 q2 q3 p n l sq sg t1 t2 br7 fW f1 f2 fr fq dr nf ng ft dt f fs) rfl rfl ?_
  refine wt_b rfl (by omega) (fun ee => absurd rfl ee) (fun ee => ?_)
  refine wt_f rfl (by omega) [0, 1, 2, 26, 27] (l_restore ⟨by omega, by omega⟩ (fun r hr => ?_) (fun h => absurd ⟨by omega, by omega⟩ h) (fun Z2 hZ2 hZ3 hZ4 => ?_) (fun Z2 hZ2 hZ3 hZ4 => absurd hs0 (show fs 0 ≠ 0 from by rw [show Z2 = 0 by omega] at hZ4; exact hZ4))) rfl rfl rfl rfl
  · rcases (by omega : r = 0 ∨ r = 1) with e | e
    · subst e; rw [show 27 * 0 = 0 from rfl, hs0]; omega
    · subst e; rw [hs1.1]; omega
  refine wt_n [.inl (-2)] (wP 0 p n a1 a2 a3 b1 b2 b3 e1 e2 e3 g1 g2 g3 q1 q2 q3 p n l sq sg t1 t2 br7 fW f1 f2 fr fq dr nf ng ft dt f fs) rfl rfl ?_
  refine wt_b rfl (by omega) (fun ee => absurd rfl ee) (fun ee => ?_)
  refine wt_c rfl (by omega) (g_digest ht5 hb7 hn (fun C6 hC6 gC6 => ⟨Or.inl rfl, ?_⟩))
  refine wt_n [.inr C6] (wP 0 p n a1 a2 a3 b1 b2 b3 e1 e2 e3 g1 g2 g3 q1 q2 q3 p n l sq sg t1 t2 br7 fW f1 f2 fr fq dr nf ng ft dt f fs) rfl rfl ?_
  have qC6 : C6 = Z := by rw [hC6, ← hZ]
  rw [qC6]
  refine wt_b rfl (by omega) (fun ee => absurd rfl ee) (fun ee => ?_)
  exact wt_r rfl (by omega) (hQ _ _ _ _ _ _ _ _ _ _ _ _ _ _ _ _ _ _ _ _ _ _ _ _ _ _ _ _ _ _ _ _ _ _ _ _ _ _)
end LAW
