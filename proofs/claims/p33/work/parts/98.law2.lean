/-! the law: scaling, swapping, saving; the inverse; adding; what is measured first -/
section LAW2
variable {X : pj_X} {Q : pj_Q} {k p n a1 a2 a3 b1 b2 b3 e1 e2 e3 g1 g2 g3 q1 q2 q3 d1 d2 l sq sg t1 t2 : Int} {N : Nat} {T : Nat → Nat → Nat → Int} {br fW f1 f2 fr fq dr nf ng ft dt f fs : Nat → Int}
/-- so many instructions straight on -/
def pj_ts (X : pj_X) : Nat → Nat → Nat → List pj_V → List pj_V → List pj_C → Prop → Option (Prop × Nat × List pj_V × List pj_V × List pj_C)
  | 0, _, pc, ls, st, h, P => some (P, pc, ls, st, h)
  | n + 1, M, pc, ls, st, h, P => match k_cd M pc with
    | some (i, nx, a, b, c, _, _) => match pj_s1 X true i nx a b c ls st h with
      | some (P', pc', ls', st', h') => bif pj_cn i then pj_ts X n M pc' ls' st' h' (P ∧ P') else pj_ts X n M pc' ls' st' h' P
      | none => none
    | none => none
theorem pj_ts_sound {X : pj_X} {Q : Option pj_V → List pj_C → Prop} : ∀ (n M pc : Nat) (ls st : List pj_V) (h : List pj_C) (P P' : Prop) (pc' : Nat) (ls' st' : List pj_V) (h' : List pj_C), pj_ts X n M pc ls st h P = some (P', pc', ls', st', h') → P' → P ∧ (pj_WT X M pc' ls' st' h' Q → pj_WT X M pc ls st h Q)
  | 0, _, _, _, _, _, _, _, _, _, _, _, he, hP' => by
    cases he
    exact ⟨hP', id⟩
  | n + 1, M, pc, ls, st, h, P, P', pc', ls', st', h', he, hP' => by
    unfold pj_ts at he
    split at he
    · rename_i i nx a b c d hd hcd
      split at he
      · rename_i P1 pc1 ls1 st1 h1 hs1
        have step : P1 → pj_WT X M pc1 ls1 st1 h1 Q → pj_WT X M pc ls st h Q := by
          rintro hP1 ⟨k, r, hf, hR, hQ⟩
          refine ⟨k + 1, r, hf, ?_, hQ⟩
          unfold pj_Rn
          simp only [hcd, hs1]
          exact ⟨hP1, hR⟩
        cases hc : pj_cn i with
        | true =>
          rw [hc] at he
          obtain ⟨⟨h1, h2⟩, h3⟩ := pj_ts_sound n M pc1 ls1 st1 h1 _ P' pc' ls' st' h' he hP'
          exact ⟨h1, fun w => step h2 (h3 w)⟩
        | false =>
          rw [hc] at he
          obtain ⟨h1, h3⟩ := pj_ts_sound n M pc1 ls1 st1 h1 _ P' pc' ls' st' h' he hP'
          exact ⟨h1, fun w => step (pj_cn_ok hs1 hc) (h3 w)⟩
      · cases he
    · cases he
theorem wt_t (n : Nat) {X : pj_X} {M pc : Nat} {ls st : List pj_V} {h : List pj_C} {Q : Option pj_V → List pj_C → Prop} {P : Prop} {pc' : Nat} {ls' st' : List pj_V} {h' : List pj_C} (e : pj_ts X n M pc ls st h ((0 : Int) ≤ 0) = some (P, pc', ls', st', h')) (hP : P) (hn : pj_WT X M pc' ls' st' h' Q) : pj_WT X M pc ls st h Q := (pj_ts_sound _ _ _ _ _ _ _ _ _ _ _ _ e hP).2 hn
theorem zc_sm {J : Nat} {g : Nat → Int} {B : Int} (h : ∀ j, 0 ≤ g j ∧ g j ≤ B) : 0 ≤ nn_sm J g ∧ nn_sm J g ≤ B * J := by
  induction J with
  | zero => show (0 : Int) ≤ 0 ∧ (0 : Int) ≤ B * ((0 : Nat) : Int); simp
  | succ J ih =>
    have h9 := h J
    show 0 ≤ nn_sm J g + g J ∧ nn_sm J g + g J ≤ B * ((J + 1 : Nat) : Int)
    rw [show ((J + 1 : Nat) : Int) = (J : Int) + 1 by omega, Int.mul_add, Int.mul_one]
    omega
theorem zc_rg {br : Nat → Int} (hN : N ≤ 5) : 0 ≤ jc_cc br N N ∧ jc_cc br N N ≤ 25 := by
  have h1 : ∀ i, 0 ≤ jc_c br i N ∧ jc_c br i N ≤ 5 := fun i => by
    have h9 := zc_sm (J := N) (g := fun j => if br (5 * i + j) = 0 then 0 else 1) (B := 1) (fun j => by
      show 0 ≤ (if br (5 * i + j) = 0 then (0 : Int) else 1) ∧ (if br (5 * i + j) = 0 then (0 : Int) else 1) ≤ 1
      split <;> omega)
    show 0 ≤ nn_sm N (fun j => if br (5 * i + j) = 0 then 0 else 1) ∧ nn_sm N (fun j => if br (5 * i + j) = 0 then 0 else 1) ≤ 5
    omega
  have h2 := zc_sm (J := N) (g := fun i => jc_c br i N) h1
  show 0 ≤ nn_sm N (fun i => jc_c br i N) ∧ nn_sm N (fun i => jc_c br i N) ≤ 25
  omega
theorem zc_one {p a b : Int} (hp : nn_p p) (h : a * b % p = 1) : nn_eq p (a * b) 1 ∧ nn_eq p (b * a) 1 := by
  have e : nn_eq p (a * b) 1 := nn_eq_iff.mpr (by rw [h, Int.emod_eq_of_lt (by omega) (by have := (nn_p_pos hp).2.1; omega)])
  exact ⟨e, by rw [Int.mul_comm]; exact e⟩
theorem zc_D {k : Int} {D : Nat} (hk : k = D) (hD : D ≤ 6) : ∃ D' : Nat, (if D = 6 then 6 else D + 1) = D' ∧ (if D = 6 then 6 else k + 1) = (D' : Int) ∧ D' ≤ 6 ∧ 1 ≤ D' := ⟨if D = 6 then 6 else D + 1, rfl, by split <;> omega, by split <;> omega, by split <;> omega⟩
theorem w_scl (ht : tt_ok p N T) (hn : n = N) {I J : Nat} {i j c : Int} (hi : i = I) (hj : j = J) (hI : I < N) (hJ : J < N) (hne : I ≠ J) (hc : 1 ≤ c ∧ c < p) (hb : tt_br p N T br) {W K : Nat} (hW : W = zg p N T) (gW : 2000 ≤ W) (gK : 2000 ≤ K) (hK : zk_is p N T K) {D : Nat} (hk : k = D) (hD : D ≤ 6) (hs0 : fs 0 = 0) {wh al y : Int} {inv : Int} (hinv : 1 ≤ inv ∧ inv < p ∧ inv * c % p = 1) (hQ : ∀ (k p n a1 a2 a3 b1 b2 b3 e1 e2 e3 g1 g2 g3 q1 q2 q3 d1 d2 l sq sg t1 t2 : Int) (br fW f1 f2 fr fq dr nf ng ft dt f fs : Nat → Int), Q (some (.inl 1)) (wP k p n a1 a2 a3 b1 b2 b3 e1 e2 e3 g1 g2 g3 q1 q2 q3 d1 d2 l sq sg t1 t2 br fW f1 f2 fr fq dr nf ng ft dt f fs)) : pj_WT X m_Lw_law 418 [.inr 1002, .inr 0, .inl wh, .inl p, .inl n, .inl al, .inr W, .inr 1000, .inr K, .inr 1000, .inl y, .inl i, .inl j, .inl c, .inl inv, .inr 1000, .inr 1000] [] (wP k p n a1 a2 a3 b1 b2 b3 e1 e2 e3 g1 g2 g3 q1 q2 q3 d1 d2 l sq sg t1 t2 br fW f1 f2 fr fq dr nf ng ft dt f fs) Q := by
  obtain ⟨hp, h1N, hN, hT, -⟩ := id ht
  obtain ⟨hp1, hp2, hp3⟩ := nn_p_pos hp
  have hpw := nn_pwle hp N hN
  have hxx := zb_swp (p := p) hI hJ hne
  obtain ⟨u1, u2⟩ := zc_one hp hinv.2.2
  refine wt_f rfl (by omega) [0, 1, 2, 24, 25, 15, 16, 17, 18, 19] (l_scaleBasis ht hb hn hk hD ⟨by omega, by omega⟩ ⟨by omega, by omega⟩ (fun h => absurd ⟨⟨by omega, by omega⟩, by omega, by omega⟩ h) (fun I' y1 br' dr nf ng hI' hI2 x1 x2 x3 x4 x5 hbr => ?_)) rfl rfl rfl rfl
  have eI : I' = I := by omega
  subst eI
  obtain ⟨v1, v2⟩ := zc_one hp x5
  have hiso := zb_iso ht (zb_scl (p := p) hI v2) (zb_scl (p := p) hI v1)
  have ht3 := ch_ok ht (ch_u I' (fun q => c * ln_e I' q)) (ch_u I' (fun q => y1 * ln_e I' q))
  have rr := zc_rg (br := br') hN
  obtain ⟨D', eD, kD, hD', hD1⟩ := zc_D hk hD
  rw [kD]
  refine wt_n [.inl (jc_cc br' N N)] (wP ((D' : Int)) p n a1 a2 a3 b1 b2 b3 e1 e2 e3 g1 g2 g3 q1 q2 q3 p n l sq sg t1 t2 br' fW f1 f2 fr fq dr nf ng ft dt ((hk_f D f p n br)) fs) rfl rfl ?_
  generalize hk_f D f p n br = f
  refine wt_b rfl (by omega) (fun ee => absurd ee (by omega)) (fun ee => ?_)
  refine wt_c rfl (by omega) (g_kinds ht3 hbr hn (fun K2 a1 a2 a3 b1 b2 b3 e1 e2 e3 g1 g2 g3 q1 q2 q3 fW f1 f2 fr fq gK2 hK2 => ⟨Or.inl rfl, ?_⟩))
  rw [zk_one ht ht3 hiso hK hK2]
  refine wt_n [.inr K] (wP ((D' : Int)) p n a1 a2 a3 b1 b2 b3 e1 e2 e3 g1 g2 g3 q1 q2 q3 p n l sq sg t1 t2 br' fW f1 f2 fr fq dr nf ng ft dt f fs) rfl rfl ?_
  refine wt_b rfl (by omega) (fun ee => absurd rfl ee) (fun ee => ?_)
  refine wt_f rfl (by omega) [0, 1, 2, 24, 25, 15, 16, 17, 18, 19] (l_scaleBasis ht3 hbr hn rfl hD' ⟨by omega, by omega⟩ ⟨by omega, by omega⟩ (fun h => absurd ⟨⟨by omega, by omega⟩, by omega, by omega⟩ h) (fun I2 y2 br2 dr nf ng hI3 hI4 x1 x2 x3 x4 x6 hbr2 => ?_)) rfl rfl rfl rfl
  have eI2 : I2 = I' := by omega
  subst eI2
  obtain ⟨v3, v4⟩ := zc_one hp x6
  rw [zb_back ht (zb_scl (p := p) hI v2) (zb_scl (p := p) hI v1) (zb_scl (p := p) hI v4) (zb_scl (p := p) hI u2)] at hbr2
  have rr2 := zc_rg (br := br2) hN
  obtain ⟨D2, eD2, kD2, hD2, hD21⟩ := zc_D (D := D') rfl hD'
  rw [kD2]
  refine wt_n [.inl (jc_cc br2 N N)] (wP ((D2 : Int)) p n a1 a2 a3 b1 b2 b3 e1 e2 e3 g1 g2 g3 q1 q2 q3 p n l sq sg t1 t2 br2 fW f1 f2 fr fq dr nf ng ft dt ((hk_f D' f p n br')) fs) rfl rfl ?_
  generalize hk_f D' f p n br' = f
  refine wt_b rfl (by omega) (fun ee => absurd ee (by omega)) (fun ee => ?_)
  refine wt_c rfl (by omega) (g_digest ht hbr2 hn (fun C1 hC1 gC1 => ⟨Or.inl rfl, ?_⟩))
  refine wt_n [.inr C1] (wP ((D2 : Int)) p n a1 a2 a3 b1 b2 b3 e1 e2 e3 g1 g2 g3 q1 q2 q3 p n l sq sg t1 t2 br2 fW f1 f2 fr fq dr nf ng ft dt f fs) rfl rfl ?_
  have qC1 : C1 = W := by rw [hC1, ← hW]
  rw [qC1]
  refine wt_b rfl (by omega) (fun ee => absurd rfl ee) (fun ee => ?_)
  refine wt_f rfl (by omega) [0, 1, 2, 24, 25, 15, 16, 17, 18, 19] (l_swapBasis ht hbr2 hn rfl hD2 ⟨by omega, by omega⟩ ⟨by omega, by omega⟩ (fun h => absurd ⟨⟨by omega, by omega⟩, ⟨by omega, by omega⟩, by omega⟩ h) (fun I3 J3 br3 dr nf ng hI5 hJ5 hI6 hJ6 hne3 hbr3 => ?_)) rfl rfl rfl rfl
  have eI3 : I3 = I2 := by omega
  have eJ3 : J3 = J := by omega
  subst eI3 eJ3
  have ht5 := ch_ok ht (ch_x I3 J3) (ch_x I3 J3)
  have hrn := fun q (_ : q < N) => ht5.2.2.2.1 I3 J3 q
  obtain ⟨r1, r2⟩ := or_nm hp hN hrn
  have r3 := (nn_nm_rg hp1 N hrn).1
  have hiso5 := zb_iso ht (fun k hk => (hxx k hk).1) (fun k hk => (hxx k hk).1)
  obtain ⟨D3, eD3, kD3, hD3, hD31⟩ := zc_D (D := D2) rfl hD2
  rw [kD3]
  obtain ⟨E, hE⟩ : ∃ E : Nat, E + 1 = D3 := ⟨D3 - 1, by omega⟩
  have hf1 := zh_push (f := f) (E := E) hbr2 hn hD2 (by rw [eD3]; exact hE)
  refine wt_n [.inl (nn_nm p N (ch_T p N T (ch_x I3 J3) (ch_x I3 J3) I3 J3))] (wP ((D3 : Int)) p n a1 a2 a3 b1 b2 b3 e1 e2 e3 g1 g2 g3 q1 q2 q3 p n l sq sg t1 t2 br3 fW f1 f2 fr fq dr nf ng ft dt ((hk_f D2 f p n br2)) fs) rfl rfl ?_
  generalize hk_f D2 f p n br2 = f at hf1 ⊢
  refine wt_b rfl (by omega) (fun ee => absurd ee (by omega)) (fun ee => ?_)
  refine wt_c rfl (by omega) (g_kinds ht5 hbr3 hn (fun K3 a1 a2 a3 b1 b2 b3 e1 e2 e3 g1 g2 g3 q1 q2 q3 fW f1 f2 fr fq gK3 hK3 => ⟨Or.inl rfl, ?_⟩))
  rw [zk_one ht ht5 hiso5 hK hK3]
  refine wt_n [.inr K] (wP ((D3 : Int)) p n a1 a2 a3 b1 b2 b3 e1 e2 e3 g1 g2 g3 q1 q2 q3 p n l sq sg t1 t2 br3 fW f1 f2 fr fq dr nf ng ft dt f fs) rfl rfl ?_
  refine wt_b rfl (by omega) (fun ee => absurd rfl ee) (fun ee => ?_)
  refine wt_f rfl (by omega) [0, 1, 2, 26, 27] (l_save ⟨by omega, by omega⟩ (fun h => absurd ⟨by omega, by omega⟩ h) (fun Z2 hZ2 hZ3 => ?_)) rfl rfl rfl rfl
  have eZ : Z2 = 1 := by omega
  subst eZ
  refine wt_n [.inl n] (wP ((D3 : Int)) p n a1 a2 a3 b1 b2 b3 e1 e2 e3 g1 g2 g3 q1 q2 q3 p n l sq sg t1 t2 br3 fW f1 f2 fr fq dr nf ng ft dt f ((sh_k fs 1 p n br3))) rfl rfl ?_
  refine wt_b rfl (by omega) (fun ee => ?_) (fun ee => absurd rfl ee)
  exact w_end ht hn hi hj hI hJ hne hbr3 hW gW gK rfl hD3 hE hf1 (zh_put hbr3 hn) (by rw [sh_k_at, if_neg (by omega), if_neg (by omega), if_neg (by omega)]; exact hs0) hQ
theorem w_inv (ht : tt_ok p N T) (hn : n = N) {I J : Nat} {i j c : Int} (hi : i = I) (hj : j = J) (hI : I < N) (hJ : J < N) (hne : I ≠ J) (hc : 1 ≤ c ∧ c < p) (hb : tt_br p N T br) {W K : Nat} (hW : W = zg p N T) (gW : 2000 ≤ W) (gK : 2000 ≤ K) (hK : zk_is p N T K) {D : Nat} (hk : k = D) (hD : D ≤ 6) (hs0 : fs 0 = 0) {wh al y : Int} {y0 : Int} (hy0 : 1 ≤ y0 ∧ y0 < p ∧ y0 * c % p = 1) (hQ : ∀ (k p n a1 a2 a3 b1 b2 b3 e1 e2 e3 g1 g2 g3 q1 q2 q3 d1 d2 l sq sg t1 t2 : Int) (br fW f1 f2 fr fq dr nf ng ft dt f fs : Nat → Int), Q (some (.inl 1)) (wP k p n a1 a2 a3 b1 b2 b3 e1 e2 e3 g1 g2 g3 q1 q2 q3 d1 d2 l sq sg t1 t2 br fW f1 f2 fr fq dr nf ng ft dt f fs)) : ∀ (m : Nat) (v : Int), v + m = y0 → 1 ≤ v → pj_WT X m_Lw_law 399 [.inr 1002, .inr 0, .inl wh, .inl p, .inl n, .inl al, .inr W, .inr 1000, .inr K, .inr 1000, .inl y, .inl i, .inl j, .inl c, .inl v, .inr 1000, .inr 1000] [] (wP k p n a1 a2 a3 b1 b2 b3 e1 e2 e3 g1 g2 g3 q1 q2 q3 d1 d2 l sq sg t1 t2 br fW f1 f2 fr fq dr nf ng ft dt f fs) Q := by
  obtain ⟨hp, h1N, hN, hT, -⟩ := id ht
  obtain ⟨hp1, hp2, hp3⟩ := nn_p_pos hp
  have hpw := nn_pwle hp N hN
  intro m
  induction m with
  | zero =>
    intro v hv hv1
    have ev : v = y0 := by omega
    have m1 : v * c ≤ 7 * 7 := Int.mul_le_mul (by omega) (by omega) (by omega) (by omega)
    have m2 : 0 ≤ v * c := Int.mul_nonneg (by omega) (by omega)
    refine wt_f rfl (by omega) [] (s_mod (v := v * c) ⟨by omega, by omega⟩ ⟨hp1, hp3⟩ ?_) rfl rfl rfl rfl
    rw [ev, hy0.2.2]
    refine wt_n [.inl 1] (wP k p n a1 a2 a3 b1 b2 b3 e1 e2 e3 g1 g2 g3 q1 q2 q3 d1 d2 l sq sg t1 t2 br fW f1 f2 fr fq dr nf ng ft dt f fs) rfl rfl ?_
    refine wt_b rfl (by omega) (fun ee => ?_) (fun ee => absurd rfl ee)
    exact w_scl ht hn hi hj hI hJ hne hc hb hW gW gK hK hk hD hs0 hy0 hQ
  | succ m ih =>
    intro v hv hv1
    have m1 : v * c ≤ 7 * 7 := Int.mul_le_mul (by omega) (by omega) (by omega) (by omega)
    have m2 : 0 ≤ v * c := Int.mul_nonneg (by omega) (by omega)
    have m3 := Int.emod_nonneg (v * c) (show p ≠ 0 by omega)
    have m4 := Int.emod_lt_of_pos (v * c) hp1
    refine wt_f rfl (by omega) [] (s_mod (v := v * c) ⟨by omega, by omega⟩ ⟨hp1, hp3⟩ ?_) rfl rfl rfl rfl
    refine wt_n [.inl (v * c % p)] (wP k p n a1 a2 a3 b1 b2 b3 e1 e2 e3 g1 g2 g3 q1 q2 q3 d1 d2 l sq sg t1 t2 br fW f1 f2 fr fq dr nf ng ft dt f fs) rfl rfl ?_
    refine wt_b rfl (by omega) (fun ee => ?_) (fun ee => ?_)
    · exact w_scl ht hn hi hj hI hJ hne hc hb hW gW gK hK hk hD hs0 ⟨hv1, by omega, ee⟩ hQ
    · refine wt_g rfl (by omega) ?_
      exact ih (v + 1) (by omega) (by omega)
theorem w_add (ht : tt_ok p N T) (hn : n = N) {I J : Nat} {i j c : Int} (hi : i = I) (hj : j = J) (hI : I < N) (hJ : J < N) (hne : I ≠ J) (hc : 1 ≤ c ∧ c < p) (hb : tt_br p N T br) {W K : Nat} (hW : W = zg p N T) (gW : 2000 ≤ W) (gK : 2000 ≤ K) (hK : zk_is p N T K) {D : Nat} (hk : k = D) (hD : D ≤ 6) (hs0 : fs 0 = 0) {wh al y : Int} (hQ : ∀ (k p n a1 a2 a3 b1 b2 b3 e1 e2 e3 g1 g2 g3 q1 q2 q3 d1 d2 l sq sg t1 t2 : Int) (br fW f1 f2 fr fq dr nf ng ft dt f fs : Nat → Int), Q (some (.inl 1)) (wP k p n a1 a2 a3 b1 b2 b3 e1 e2 e3 g1 g2 g3 q1 q2 q3 d1 d2 l sq sg t1 t2 br fW f1 f2 fr fq dr nf ng ft dt f fs)) : pj_WT X m_Lw_law 337 [.inr 1002, .inr 0, .inl wh, .inl p, .inl n, .inl al, .inr W, .inr 1000, .inr K, .inr 1000, .inl y, .inl i, .inl j, .inl c, .inr 1000, .inr 1000, .inr 1000] [] (wP k p n a1 a2 a3 b1 b2 b3 e1 e2 e3 g1 g2 g3 q1 q2 q3 d1 d2 l sq sg t1 t2 br fW f1 f2 fr fq dr nf ng ft dt f fs) Q := by
  obtain ⟨hp, h1N, hN, hT, -⟩ := id ht
  obtain ⟨hp1, hp2, hp3⟩ := nn_p_pos hp
  have hpw := nn_pwle hp N hN
  have z0 : ∀ a b : Int, a + b = 0 ∨ a + b = p → nn_eq p (a + b) 0 := fun a b h => by
    rcases h with h | h
    · rw [h]; exact nn_eq_rfl p 0
    · unfold nn_eq; rw [h, Int.sub_zero, Int.emod_self]
  have za1 := zb_add (p := p) hI hJ hne (z0 c (-c) (by omega))
  have za2 := zb_add (p := p) hI hJ hne (z0 (-c) c (by omega))
  have za3 := zb_add (p := p) hI hJ hne (z0 (p - c) (-(p - c)) (by omega))
  have za4 := zb_add (p := p) hI hJ hne (z0 c (p - c) (by omega))
  refine wt_f rfl (by omega) [0, 1, 2, 24, 25, 15, 16, 17, 18, 19] (l_addBasis ht hb hn hk hD ⟨by omega, by omega⟩ ⟨by omega, by omega⟩ ⟨by omega, by omega⟩ (fun h => absurd ⟨⟨by omega, by omega⟩, ⟨by omega, by omega⟩, by omega, by omega, by omega⟩ h) (fun I' J' br' dr nf ng hI' hJ' hI2 hJ2 hne2 x1 x2 hbr => ?_)) rfl rfl rfl rfl
  have eI : I' = I := by omega
  have eJ : J' = J := by omega
  subst eI eJ
  have ht3 := ch_ok ht (ch_u I' (fun q => ln_e I' q + c * ln_e J' q)) (ch_u I' (fun q => ln_e I' q + (-c) * ln_e J' q))
  have hrn := fun q (_ : q < N) => ht3.2.2.2.1 I' J' q
  obtain ⟨r1, r2⟩ := or_nm hp hN hrn
  have r3 := (nn_nm_rg hp1 N hrn).1
  have hiso := zb_iso ht za1 za2
  obtain ⟨D', eD, kD, hD', hD1⟩ := zc_D hk hD
  rw [kD]
  refine wt_n [.inl (nn_nm p N (ch_T p N T (ch_u I' (fun q => ln_e I' q + c * ln_e J' q)) (ch_u I' (fun q => ln_e I' q + (-c) * ln_e J' q)) I' J'))] (wP ((D' : Int)) p n a1 a2 a3 b1 b2 b3 e1 e2 e3 g1 g2 g3 q1 q2 q3 p n l sq sg t1 t2 br' fW f1 f2 fr fq dr nf ng ft dt ((hk_f D f p n br)) fs) rfl rfl ?_
  generalize hk_f D f p n br = f
  refine wt_b rfl (by omega) (fun ee => absurd ee (by omega)) (fun ee => ?_)
  refine wt_c rfl (by omega) (g_kinds ht3 hbr hn (fun K2 a1 a2 a3 b1 b2 b3 e1 e2 e3 g1 g2 g3 q1 q2 q3 fW f1 f2 fr fq gK2 hK2 => ⟨Or.inl rfl, ?_⟩))
  rw [zk_one ht ht3 hiso hK hK2]
  refine wt_n [.inr K] (wP ((D' : Int)) p n a1 a2 a3 b1 b2 b3 e1 e2 e3 g1 g2 g3 q1 q2 q3 p n l sq sg t1 t2 br' fW f1 f2 fr fq dr nf ng ft dt f fs) rfl rfl ?_
  refine wt_b rfl (by omega) (fun ee => absurd rfl ee) (fun ee => ?_)
  refine wt_f rfl (by omega) [0, 1, 2, 3, 4, 5, 6, 7, 8, 9, 10, 11, 12, 13, 14] (g_falls ht3 hbr hn (fun a1 a2 a3 b1 b2 b3 e1 e2 e3 g1 g2 g3 q1 q2 q3 fW f1 f2 fr fq => ?_)) rfl rfl rfl rfl
  refine wt_n [.inl 1] (wP ((D' : Int)) p n a1 a2 a3 b1 b2 b3 e1 e2 e3 g1 g2 g3 q1 q2 q3 p n l sq sg t1 t2 br' fW f1 f2 fr fq dr nf ng ft dt f fs) rfl rfl ?_
  refine wt_b rfl (by omega) (fun ee => absurd ee (by omega)) (fun ee => ?_)
  refine wt_f rfl (by omega) [0, 1, 2, 24, 25, 15, 16, 17, 18, 19] (l_addBasis ht3 hbr hn rfl hD' ⟨by omega, by omega⟩ ⟨by omega, by omega⟩ ⟨by omega, by omega⟩ (fun h => absurd ⟨⟨by omega, by omega⟩, ⟨by omega, by omega⟩, by omega, by omega, by omega⟩ h) (fun I3 J3 br2 dr nf ng hI3 hJ3 hI4 hJ4 hne3 x3 x4 hbr2 => ?_)) rfl rfl rfl rfl
  have eI3 : I3 = I' := by omega
  have eJ3 : J3 = J' := by omega
  subst eI3 eJ3
  rw [zb_back ht za1 za2 za3 za4] at hbr2 ⊢
  have hrn2 := fun q (_ : q < N) => hT I3 J3 q
  obtain ⟨r4, r5⟩ := or_nm hp hN hrn2
  have r6 := (nn_nm_rg hp1 N hrn2).1
  obtain ⟨D2, eD2, kD2, hD2, hD21⟩ := zc_D (D := D') rfl hD'
  rw [kD2]
  refine wt_n [.inl (nn_nm p N (T I3 J3))] (wP ((D2 : Int)) p n a1 a2 a3 b1 b2 b3 e1 e2 e3 g1 g2 g3 q1 q2 q3 p n l sq sg t1 t2 br2 fW f1 f2 fr fq dr nf ng ft dt ((hk_f D' f p n br')) fs) rfl rfl ?_
  generalize hk_f D' f p n br' = f
  refine wt_b rfl (by omega) (fun ee => absurd ee (by omega)) (fun ee => ?_)
  refine wt_c rfl (by omega) (g_digest ht hbr2 hn (fun C1 hC1 gC1 => ⟨Or.inl rfl, ?_⟩))
  refine wt_n [.inr C1] (wP ((D2 : Int)) p n a1 a2 a3 b1 b2 b3 e1 e2 e3 g1 g2 g3 q1 q2 q3 p n l sq sg t1 t2 br2 fW f1 f2 fr fq dr nf ng ft dt f fs) rfl rfl ?_
  have qC1 : C1 = W := by rw [hC1, ← hW]
  rw [qC1]
  refine wt_b rfl (by omega) (fun ee => ?_) (fun ee => absurd rfl ee)
  refine wt_g rfl (by omega) ?_
  obtain ⟨y0, y1, y2, y3⟩ := nn_inv_ex hp c hc.1 hc.2
  exact w_inv ht hn hi hj hI hJ hne hc hbr2 hW gW gK hK rfl hD2 hs0 ⟨y1, y2, y3⟩ hQ (y0 - 1).toNat 1 (by omega) (by omega)
theorem w_mid (hX : ∀ j, pj_rg (X.2 j)) (hL : X.1 ≤ 260) (ht : tt_ok p N T) (h2N : 2 ≤ N) (hn : n = N) (hb : tt_br p N T br) {D : Nat} (hk : k = D) (hD : D ≤ 6) (hs0 : fs 0 = 0) {wh al z : Int} {x7 x8 : pj_V} (hQ : ∀ (k p n a1 a2 a3 b1 b2 b3 e1 e2 e3 g1 g2 g3 q1 q2 q3 d1 d2 l sq sg t1 t2 : Int) (br fW f1 f2 fr fq dr nf ng ft dt f fs : Nat → Int), Q (some (.inl 1)) (wP k p n a1 a2 a3 b1 b2 b3 e1 e2 e3 g1 g2 g3 q1 q2 q3 d1 d2 l sq sg t1 t2 br fW f1 f2 fr fq dr nf ng ft dt f fs)) : pj_WT X m_Lw_law 272 [.inr 1002, .inr 0, .inl wh, .inl p, .inl n, .inl al, .inl z, x7, x8, .inr 1000, .inr 1000, .inr 1000, .inr 1000, .inr 1000, .inr 1000, .inr 1000, .inr 1000] [] (wP k p n a1 a2 a3 b1 b2 b3 e1 e2 e3 g1 g2 g3 q1 q2 q3 d1 d2 l sq sg t1 t2 br fW f1 f2 fr fq dr nf ng ft dt f fs) Q := by
  obtain ⟨hp, h1N, hN, hT, -⟩ := id ht
  obtain ⟨hp1, hp2, hp3⟩ := nn_p_pos hp
  have hpw := nn_pwle hp N hN
  refine wt_c rfl (by omega) (g_digest ht hb hn (fun W hW gW => ⟨Or.inl rfl, ?_⟩))
  refine wt_n [.inr W] (wP k p n a1 a2 a3 b1 b2 b3 e1 e2 e3 g1 g2 g3 q1 q2 q3 d1 d2 l sq sg t1 t2 br fW f1 f2 fr fq dr nf ng ft dt f fs) rfl rfl ?_
  refine wt_c rfl (by omega) (g_kinds ht hb hn (fun K a1 a2 a3 b1 b2 b3 e1 e2 e3 g1 g2 g3 q1 q2 q3 fW f1 f2 fr fq gK hK => ⟨Or.inl rfl, ?_⟩))
  refine wt_n [.inr K] (wP k p n a1 a2 a3 b1 b2 b3 e1 e2 e3 g1 g2 g3 q1 q2 q3 d1 d2 l sq sg t1 t2 br fW f1 f2 fr fq dr nf ng ft dt f fs) rfl rfl ?_
  refine wt_f rfl (by omega) [] (s_cell hX hL ⟨by omega, by omega⟩ (fun y hy => ?_)) rfl rfl rfl rfl
  refine wt_n [.inl y] (wP k p n a1 a2 a3 b1 b2 b3 e1 e2 e3 g1 g2 g3 q1 q2 q3 d1 d2 l sq sg t1 t2 br fW f1 f2 fr fq dr nf ng ft dt f fs) rfl rfl ?_
  refine wt_f rfl (by omega) [] (s_low ⟨by omega, by omega⟩ (fun i i1 i2 => ?_)) rfl rfl rfl rfl
  refine wt_n [.inl i] (wP k p n a1 a2 a3 b1 b2 b3 e1 e2 e3 g1 g2 g3 q1 q2 q3 d1 d2 l sq sg t1 t2 br fW f1 f2 fr fq dr nf ng ft dt f fs) rfl rfl ?_
  refine wt_f rfl (by omega) [] (s_low ⟨by omega, by omega⟩ (fun r r1 r2 => ?_)) rfl rfl rfl rfl
  refine wt_n [.inl r, .inl (i + 1)] (wP k p n a1 a2 a3 b1 b2 b3 e1 e2 e3 g1 g2 g3 q1 q2 q3 d1 d2 l sq sg t1 t2 br fW f1 f2 fr fq dr nf ng ft dt f fs) rfl rfl ?_
  have ej : (i + 1 + r).tmod n = (i + 1 + r) % n := Int.tmod_eq_emod_of_nonneg (by omega)
  have ej2 : (0 ≤ (i + 1 + r) % n ∧ (i + 1 + r) % n < n) ∧ (i + 1 + r) % n ≠ i := by
    by_cases h : i + 1 + r < n
    · rw [Int.emod_eq_of_lt (by omega) h]; omega
    · rw [show i + 1 + r = (i + 1 + r - n) + n by omega, Int.add_emod_right, Int.emod_eq_of_lt (by omega) (by omega)]; omega
  rw [← ej] at ej2
  refine wt_f rfl (by omega) [] (s_low ⟨by omega, by omega⟩ (fun c0 c1 c2 => ?_)) rfl rfl rfl rfl
  refine wt_n [.inl c0, .inl 1] (wP k p n a1 a2 a3 b1 b2 b3 e1 e2 e3 g1 g2 g3 q1 q2 q3 d1 d2 l sq sg t1 t2 br fW f1 f2 fr fq dr nf ng ft dt f fs) rfl rfl ?_
  generalize (i + 1 + r).tmod n = j at ej2 ⊢
  refine wt_t 2 rfl (by omega) ?_
  exact w_add ht hn (I := i.toNat) (J := j.toNat) (by omega) (by omega) (by omega) (by omega) (by omega) ⟨by omega, by omega⟩ hb hW gW gK hK hk hD hs0 hQ
end LAW2
