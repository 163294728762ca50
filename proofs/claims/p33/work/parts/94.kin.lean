/-! kinds -/
def zk_l (fl : Nat) (dv lv : Nat → Int) : Nat → Nat
  | 0 => 2000 + fl
  | L + 1 => zs (zs (zk_l fl dv lv L) (dv L)) (lv L)
theorem zk_l_congr {fl : Nat} {dv lv dv' lv' : Nat → Int} : ∀ L : Nat, (∀ l, l < L → dv l = dv' l ∧ lv l = lv' l) → zk_l fl dv lv L = zk_l fl dv' lv' L
  | 0, _ => rfl
  | L + 1, h => by
    show zs (zs (zk_l fl dv lv L) (dv L)) (lv L) = zs (zs (zk_l fl dv' lv' L) (dv' L)) (lv' L)
    rw [zk_l_congr L (fun l hl => h l (by omega)), (h L (by omega)).1, (h L (by omega)).2]
def zk_is (p : Int) (N : Nat) (T : Nat → Nat → Nat → Int) (C : Nat) : Prop := ∃ (jf : Int) (fl : Nat) (dv lv : Nat → Int) (ki cd kr de : Int), an_jf p N T jf ∧ ((jf = -9 ∧ fl = 1) ∨ (jf ≠ -9 ∧ fl = 0)) ∧ (∀ l : Nat, l < 6 → an_dd p N T false (l : Int) (dv l) ∧ an_dd p N T true (l : Int) (lv l)) ∧ an_ki p N T ki ∧ an_cd p N T cd ∧ an_kr p N T kr ∧ an_de p N T de ∧ C = zs (zs (zs (zs (zk_l fl dv lv 6) ki) cd) kr) de
section KIN
variable {X : pj_X} {Q : pj_Q} {k p n a1 a2 a3 b1 b2 b3 e1 e2 e3 g1 g2 g3 q1 q2 q3 d1 d2 l sq sg t1 t2 : Int} {N : Nat} {T T' : Nat → Nat → Nat → Int} {br fW f1 f2 fr fq dr nf ng ft dt f fs : Nat → Int} {φ ψ : ln_V → ln_V} {z : Int}
theorem zk_one (ht : tt_ok p N T) (ht' : tt_ok p N T') (h : zi_iso p N T T' φ ψ) {C C' : Nat} (a : zk_is p N T C) (a' : zk_is p N T' C') : C' = C := by
  obtain ⟨hp, -⟩ := id ht
  obtain ⟨jf, fl, dv, lv, ki, cd, kr, de, a1, a2, a3, a4, a5, a6, a7, a8⟩ := a
  obtain ⟨jf', fl', dv', lv', ki', cd', kr', de', b1, b2, b3, b4, b5, b6, b7, b8⟩ := a'
  have h1 := zi_jf ht ht' h a1 b1
  have e1 : fl' = fl := by
    rcases a2 with ⟨u, v⟩ | ⟨u, v⟩ <;> rcases b2 with ⟨u', v'⟩ | ⟨u', v'⟩
    · omega
    · exact absurd (h1.mp u) u'
    · exact absurd (h1.mpr u') u
    · omega
  have e2 : zk_l fl dv' lv' 6 = zk_l fl dv lv 6 := zk_l_congr 6 (fun l hl => ⟨zi_dd hp h (a3 l hl).1 (b3 l hl).1, zi_dd hp h (a3 l hl).2 (b3 l hl).2⟩)
  rw [a8, b8, e1, e2, zi_ki hp h a4 b4, zi_cd hp h a5 b5, zi_kr hp h a6 b6, zi_de ht ht' h a7 b7]
theorem zr_ki (a : an_ki p N T z) : 0 ≤ z ∧ z ≤ 2 := by
  rcases a with ⟨R, r, b, c⟩ | ⟨R, R2, r, b, r2, c⟩
  · omega
  · rw [c]
    split <;> omega
theorem zr_cd (a : an_cd p N T z) : 0 ≤ z ∧ z ≤ N := by
  obtain ⟨R, r, e⟩ := a
  have := ln_ct_w R N
  omega
theorem zr_kr (a : an_kr p N T z) : 0 ≤ z ∧ z ≤ N := by
  obtain ⟨R, r, h, e⟩ := a
  have := ln_ct_w R N
  omega
theorem zr_de (hN : N ≤ 5) (a : an_de p N T z) : 0 ≤ z ∧ z ≤ 25 := by
  obtain ⟨R, r, h, e⟩ := a
  have := ln_ct_w R (N * N)
  have := dv_25 hN
  omega
theorem g_kin (ht : tt_ok p N T) (hb : tt_br p N T br) (hn : n = N) {jf : Int} {fl : Nat} (hj : an_jf p N T jf) (hfl : (jf = -9 ∧ fl = 1) ∨ (jf ≠ -9 ∧ fl = 0)) (hQ : ∀ (C : Nat) (a1 a2 a3 b1 b2 b3 e1 e2 e3 g1 g2 g3 q1 q2 q3 : Int) (fW f1 f2 fr fq : Nat → Int), 2000 ≤ C → zk_is p N T C → Q (some (.inr C)) (wP k p n a1 a2 a3 b1 b2 b3 e1 e2 e3 g1 g2 g3 q1 q2 q3 d1 d2 l sq sg t1 t2 br fW f1 f2 fr fq dr nf ng ft dt f fs)) : ∀ (m L c : Nat) (dv lv : Nat → Int) (z : Int) (a1 a2 a3 b1 b2 b3 e1 e2 e3 g1 g2 g3 q1 q2 q3 : Int) (fW f1 f2 fr fq : Nat → Int), L + m = 6 → z = L → 2000 ≤ c → c = zk_l fl dv lv L → (∀ l : Nat, l < L → an_dd p N T false (l : Int) (dv l) ∧ an_dd p N T true (l : Int) (lv l)) → pj_WT X m_Lw_kinds 17 [.inr 0, .inr c, .inr 1000, .inl z] [] (wP k p n a1 a2 a3 b1 b2 b3 e1 e2 e3 g1 g2 g3 q1 q2 q3 d1 d2 l sq sg t1 t2 br fW f1 f2 fr fq dr nf ng ft dt f fs) Q := by
  obtain ⟨hp, h1N, hN, hT, -⟩ := id ht
  intro m
  induction m with
  | zero =>
    intro L c dv lv z a1 a2 a3 b1 b2 b3 e1 e2 e3 g1 g2 g3 q1 q2 q3 fW f1 f2 fr fq hL hz hc hC hd
    refine wt_b rfl (by omega) (fun e => ?_) (fun e => absurd e (by omega))
    refine wt_f rfl (by omega) [0, 1, 2, 3, 4, 5, 6, 7, 8, 9] (l_kind ht hb hn (fun fW f1 f2 a1 a2 a3 b1 b2 b3 e1 e2 e3 ki hki => ?_)) rfl rfl rfl rfl
    refine wt_n [.inl ki, .inr (2000 + (2000 + 31 - 2000) * (c - 2000)), .inr (2000 + 31)] (wP k p n a1 a2 a3 b1 b2 b3 e1 e2 e3 g1 g2 g3 q1 q2 q3 d1 d2 l sq sg t1 t2 br fW f1 f2 fr fq dr nf ng ft dt f fs) rfl rfl ?_
    have r1 := zr_ki hki
    refine wt_f rfl (by omega) [0, 1, 2, 3, 4, 5, 6, 7, 8, 9] (l_cenDim ht hb hn (fun fW f1 f2 a1 a2 a3 b1 b2 b3 e1 e2 e3 cd hcd => ?_)) rfl rfl rfl rfl
    refine wt_n [.inl cd, .inr (2000 + (2000 + 31 - 2000) * (zs c ki - 2000))] (wP k p n a1 a2 a3 b1 b2 b3 e1 e2 e3 g1 g2 g3 q1 q2 q3 d1 d2 l sq sg t1 t2 br fW f1 f2 fr fq dr nf ng ft dt f fs) rfl rfl ?_
    have r2 := zr_cd hcd
    have s1 := zs_ge c ki
    have s2 := zs_ge (zs c ki) cd
    refine wt_f rfl (by omega) [0, 1, 2, 10, 11, 12, 13, 14] (l_killRad ht hb hn (fun fr fq g1 g2 g3 q1 q2 q3 kr hkr => ?_)) rfl rfl rfl rfl
    refine wt_n [.inl kr, .inr (2000 + (2000 + 31 - 2000) * (zs (zs c ki) cd - 2000)), .inr (2000 + 31)] (wP k p n a1 a2 a3 b1 b2 b3 e1 e2 e3 g1 g2 g3 q1 q2 q3 d1 d2 l sq sg t1 t2 br fW f1 f2 fr fq dr nf ng ft dt f fs) rfl rfl ?_
    have r3 := zr_kr hkr
    refine wt_f rfl (by omega) [0, 1, 2, 10, 11, 12, 13, 14] (l_derivation ht hb hn (fun fr fq g1 g2 g3 q1 q2 q3 de hde => ?_)) rfl rfl rfl rfl
    refine wt_n [.inl de, .inr (2000 + (2000 + 31 - 2000) * (zs (zs (zs c ki) cd) kr - 2000))] (wP k p n a1 a2 a3 b1 b2 b3 e1 e2 e3 g1 g2 g3 q1 q2 q3 d1 d2 l sq sg t1 t2 br fW f1 f2 fr fq dr nf ng ft dt f fs) rfl rfl ?_
    have r4 := zr_de hN hde
    have hL6 : L = 6 := by omega
    subst hL6
    exact wt_r rfl (by omega) (hQ (zs (zs (zs (zs c ki) cd) kr) de) _ _ _ _ _ _ _ _ _ _ _ _ _ _ _ _ _ _ _ _ (zs_ge _ _) ⟨jf, fl, dv, lv, ki, cd, kr, de, hj, hfl, hd, hki, hcd, hkr, hde, by rw [hC]⟩)
  | succ m ih =>
    intro L c dv lv z a1 a2 a3 b1 b2 b3 e1 e2 e3 g1 g2 g3 q1 q2 q3 fW f1 f2 fr fq hL hz hc hC hd
    refine wt_b rfl (by omega) (fun e => absurd e (by omega)) (fun e => ?_)
    refine wt_f rfl (by omega) [0, 1, 2, 3, 4, 5, 6, 7, 8, 9] (l_derDim ht hb hn ⟨by omega, by omega⟩ (fun fW f1 f2 a1 a2 a3 b1 b2 b3 e1 e2 e3 y hy => ?_)) rfl rfl rfl rfl
    refine wt_n [.inl y, .inr (2000 + (2000 + 31 - 2000) * (c - 2000)), .inr (2000 + 31)] (wP k p n a1 a2 a3 b1 b2 b3 e1 e2 e3 g1 g2 g3 q1 q2 q3 d1 d2 l sq sg t1 t2 br fW f1 f2 fr fq dr nf ng ft dt f fs) rfl rfl ?_
    have r1 := fs_rg ⟨by omega, by omega⟩ hy
    refine wt_f rfl (by omega) [0, 1, 2, 3, 4, 5, 6, 7, 8, 9] (l_lowDim ht hb hn ⟨by omega, by omega⟩ (fun fW f1 f2 a1 a2 a3 b1 b2 b3 e1 e2 e3 y2 hy2 => ?_)) rfl rfl rfl rfl
    refine wt_n [.inl y2, .inr (2000 + (2000 + 31 - 2000) * (zs c y - 2000))] (wP k p n a1 a2 a3 b1 b2 b3 e1 e2 e3 g1 g2 g3 q1 q2 q3 d1 d2 l sq sg t1 t2 br fW f1 f2 fr fq dr nf ng ft dt f fs) rfl rfl ?_
    have r2 := fs_rg ⟨by omega, by omega⟩ hy2
    have s1 := zs_ge c y
    refine wt_g rfl (by omega) ?_
    refine ih (L + 1) (zs (zs c y) y2) (fun k => if k = L then y else dv k) (fun k => if k = L then y2 else lv k) _ _ _ _ _ _ _ _ _ _ _ _ _ _ _ _ _ _ _ _ _ (by omega) (by omega) (zs_ge _ _) ?_ (fun l hl => ?_)
    · show zs (zs c y) y2 = zs (zs (zk_l fl (fun k => if k = L then y else dv k) (fun k => if k = L then y2 else lv k) L) (if L = L then y else dv L)) (if L = L then y2 else lv L)
      rw [if_pos rfl, if_pos rfl, hC]
      congr 2
      exact zk_l_congr L (fun l hl => ⟨(if_neg (show ¬ l = L by omega)).symm, (if_neg (show ¬ l = L by omega)).symm⟩)
    · by_cases hlL : l = L
      · subst hlL
        rw [if_pos rfl, if_pos rfl, ← hz]
        exact ⟨hy, hy2⟩
      · rw [if_neg hlL, if_neg hlL]
        exact hd l (by omega)
/-- kinds(o) -/
theorem g_kinds (ht : tt_ok p N T) (hb : tt_br p N T br) (hn : n = N) (hQ : ∀ (C : Nat) (a1 a2 a3 b1 b2 b3 e1 e2 e3 g1 g2 g3 q1 q2 q3 : Int) (fW f1 f2 fr fq : Nat → Int), 2000 ≤ C → zk_is p N T C → Q (some (.inr C)) (wP k p n a1 a2 a3 b1 b2 b3 e1 e2 e3 g1 g2 g3 q1 q2 q3 d1 d2 l sq sg t1 t2 br fW f1 f2 fr fq dr nf ng ft dt f fs)) : pj_WT X m_Lw_kinds 0 ([.inr 0] ++ pj_rep (k_nL m_Lw_kinds - 1)) [] (wP k p n a1 a2 a3 b1 b2 b3 e1 e2 e3 g1 g2 g3 q1 q2 q3 d1 d2 l sq sg t1 t2 br fW f1 f2 fr fq dr nf ng ft dt f fs) Q := by
  obtain ⟨hp, h1N, hN, hT, -⟩ := id ht
  refine wt_f rfl (by omega) [0, 1, 2] (l_jacobi ht hb hn (fun jf hjf => ?_)) rfl rfl rfl rfl
  refine wt_n [.inl jf] (wP k p n a1 a2 a3 b1 b2 b3 e1 e2 e3 g1 g2 g3 q1 q2 q3 d1 d2 l sq sg t1 t2 br fW f1 f2 fr fq dr nf ng ft dt f fs) rfl rfl ?_
  have r0 := or_jf hN hjf
  refine wt_b rfl (by omega) (fun e => ?_) (fun e => ?_)
  · refine wt_g rfl (by omega) ?_
    exact g_kin ht hb hn hjf (Or.inr ⟨e, rfl⟩) hQ 6 0 _ (fun _ => 0) (fun _ => 0) _ _ _ _ _ _ _ _ _ _ _ _ _ _ _ _ _ _ _ _ _ (by omega) (by omega) (by omega) rfl (fun l hl => absurd hl (by omega))
  · refine wt_g rfl (by omega) ?_
    exact g_kin ht hb hn hjf (Or.inl ⟨Classical.byContradiction e, rfl⟩) hQ 6 0 _ (fun _ => 0) (fun _ => 0) _ _ _ _ _ _ _ _ _ _ _ _ _ _ _ _ _ _ _ _ _ (by omega) (by omega) (by omega) rfl (fun l hl => absurd hl (by omega))
end KIN
