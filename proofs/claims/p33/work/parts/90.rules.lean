/-! rules for a switch, and for runs that make new cells -/
theorem pj_Rn_al {X : pj_X} : ∀ (n M pc : Nat) (ls st : List pj_V) (h : List pj_C) (r : Option pj_V) (hf : List pj_C), pj_Rn X false n M pc ls st h r hf → pj_Rn X true n M pc ls st h r hf
  | 0, _, _, _, _, _, _, _, hR => False.elim hR
  | n + 1, M, pc, ls, st, h, r, hf, hR => by
    unfold pj_Rn at hR ⊢
    split at hR
    · exact False.elim hR
    · split at hR
      · rename_i he
        simp only [pj_s1_al he]
        exact ⟨hR.1, pj_Rn_al n _ _ _ _ _ _ _ hR.2⟩
      · split at hR
        · rename_i he
          simp only [pj_s1_none1 (pj_br_k he), he]
          exact ⟨hR.1, fun z => pj_Rn_al n _ _ _ _ _ _ _ (hR.2.1 z), fun z => pj_Rn_al n _ _ _ _ _ _ _ (hR.2.2 z)⟩
        · split at hR
          · rename_i he
            have e2 := pj_rn_k he
            simp only [pj_s1_none1 e2.1, e2.2, he]
            exact hR
          · split at hR
            · rename_i he
              obtain ⟨rc, hc, h1, h2, h3⟩ := hR
              obtain ⟨e2, e3, e4⟩ := pj_cl_k (X := X) (al := true) he
              simp only [e2, e3, e4, he]
              exact ⟨rc, hc, pj_Rn_al n _ _ _ _ _ _ _ h1, h2, pj_Rn_al n _ _ _ _ _ _ _ h3⟩
            · split at hR
              · rename_i he
                obtain ⟨hx, pt, ht, h3⟩ := hR
                obtain ⟨e1, e2, e3, e4⟩ := pj_sw_k he
                simp only [pj_s1_none1 e1, e2, e3, e4, he]
                exact ⟨hx, pt, ht, pj_Rn_al n _ _ _ _ _ _ _ h3⟩
              · exact False.elim hR
/-- on to a switch -/
def pj_bs (X : pj_X) (M pc : Nat) (ls st : List pj_V) (h : List pj_C) : Option (Prop × Nat × Int × Int × Int × Array Int × Int × List pj_V × List pj_V × List pj_C) := match pj_bk X 300 true M pc ls st h ((0 : Int) ≤ 0) with
  | some (P, pc', ls', st', h') => match k_cd M pc' with
    | some (i, _, _, _, _, _, _) => match pj_sw i st' with
      | some (d, lo, hi, offs, x, t) => some (P, pc', d, lo, hi, offs, x, ls', t, h')
      | none => none
    | none => none
  | none => none
section WPS
variable {X : pj_X} {M pc : Nat} {ls st : List pj_V} {h : List pj_C} {Q : Option pj_V → List pj_C → Prop}
theorem wp_s {P : Prop} {pc' : Nat} {d lo hi x : Int} {offs : Array Int} {ls' t : List pj_V} {h' : List pj_C} (e : pj_bs X M pc ls st h = some (P, pc', d, lo, hi, offs, x, ls', t, h')) (hP : P) (hx : pj_rg x) (pt : Nat) (hpt : ((¬ x < lo ∧ ¬ hi < x) ∧ ∃ o, offs[(x - lo).toNat]? = some o ∧ (pc' : Int) + o = (pt : Int)) ∨ ((x < lo ∨ hi < x) ∧ (pc' : Int) + d = (pt : Int))) (hk : pj_WP X M pt ls' t h' Q) : pj_WP X M pc ls st h Q := by
  unfold pj_bs at e
  split at e
  · rename_i P1 pc1 ls1 st1 h1 hb1
    split at e
    · rename_i i nx a b c dd hd hcd
      split at e
      · rename_i d2 lo2 hi2 offs2 x2 t2 hsw
        cases e
        refine (pj_bk_sound _ _ _ _ _ _ _ _ _ _ _ _ _ hb1 hP).2 ?_
        obtain ⟨n, r, hf, hR, hQ⟩ := hk
        obtain ⟨e1, e2, e3, e4⟩ := pj_sw_k hsw
        have hn := pj_s1_none1 (X := X) (al := false) (g := h') (nx := nx) (a := a) (b := b) (c := c) (ls2 := ls') (st2 := st1) e1
        refine ⟨n + 1, r, hf, ?_, hQ⟩
        unfold pj_Rn
        simp only [hcd, hn, e2, e3, e4, hsw]
        exact ⟨hx, pt, hpt, hR⟩
      · cases e
    · cases e
  · cases e
end WPS
/-- what is said of a run that may make new cells -/
def pj_WT (X : pj_X) (M pc : Nat) (ls st : List pj_V) (h : List pj_C) (Q : Option pj_V → List pj_C → Prop) : Prop := ∃ (n : Nat) (r : Option pj_V) (hf : List pj_C), pj_Rn X true n M pc ls st h r hf ∧ Q r hf
def pj_tk (X : pj_X) : Nat → Bool → Nat → Nat → List pj_V → List pj_V → List pj_C → Prop → Option (Prop × Nat × List pj_V × List pj_V × List pj_C)
  | 0, _, _, _, _, _, _, _ => none
  | n + 1, first, M, pc, ls, st, h, P => match k_cd M pc with
    | some (i, nx, a, b, c, _, hd) => bif hd && !first then some (P, pc, ls, st, h) else match pj_s1 X true i nx a b c ls st h with
      | some (P', pc', ls', st', h') => bif pj_cn i then pj_tk X n false M pc' ls' st' h' (P ∧ P') else pj_tk X n false M pc' ls' st' h' P
      | none => some (P, pc, ls, st, h)
    | none => none
theorem pj_tk_sound {X : pj_X} {Q : Option pj_V → List pj_C → Prop} : ∀ (n : Nat) (first : Bool) (M pc : Nat) (ls st : List pj_V) (h : List pj_C) (P P' : Prop) (pc' : Nat) (ls' st' : List pj_V) (h' : List pj_C), pj_tk X n first M pc ls st h P = some (P', pc', ls', st', h') → P' → P ∧ (pj_WT X M pc' ls' st' h' Q → pj_WT X M pc ls st h Q)
  | 0, _, _, _, _, _, _, _, _, _, _, _, _, he, _ => by cases he
  | n + 1, first, M, pc, ls, st, h, P, P', pc', ls', st', h', he, hP' => by
    unfold pj_tk at he
    split at he
    · rename_i i nx a b c d hd hcd
      cases hz : (hd && !first) with
      | true =>
        rw [hz] at he
        cases he
        exact ⟨hP', id⟩
      | false =>
        rw [hz] at he
        simp only [cond_false] at he
        split at he
        · rename_i P1 pc1 ls1 st1 h1 hs1
          have step : P1 → pj_WT X M pc1 ls1 st1 h1 Q → pj_WT X M pc ls st h Q := by
            rintro hP1 ⟨k, r, hf, hR, hQ⟩
            refine ⟨k + 1, r, hf, ?_, hQ⟩
            unfold pj_Rn
            simp only [hcd, hs1]
            exact ⟨hP1, hR⟩
          cases hc : pj_cn i with
          | true =>
            rw [hc] at he
            obtain ⟨⟨h1, h2⟩, h3⟩ := pj_tk_sound n false M pc1 ls1 st1 h1 _ P' pc' ls' st' h' he hP'
            exact ⟨h1, fun w => step h2 (h3 w)⟩
          | false =>
            rw [hc] at he
            obtain ⟨h1, h3⟩ := pj_tk_sound n false M pc1 ls1 st1 h1 _ P' pc' ls' st' h' he hP'
            exact ⟨h1, fun w => step (pj_cn_ok hs1 hc) (h3 w)⟩
        · cases he
          exact ⟨hP', id⟩
    · cases he
def pj_tn (X : pj_X) (M pc : Nat) (ls st : List pj_V) (h : List pj_C) : Option (Prop × Option pj_V × List pj_C) := match pj_tk X 300 true M pc ls st h ((0 : Int) ≤ 0) with
  | some (P, pc', _, st', h') => match k_cd M pc' with
    | some (i, _, _, _, _, _, _) => match pj_rn (k_rt M) i st' with
      | some (P2, v) => some (P ∧ P2, v, h')
      | none => none
    | none => none
  | none => none
def pj_tc (X : pj_X) (M pc : Nat) (ls st : List pj_V) (h : List pj_C) : Option (Prop × Nat × List pj_V × Nat × List pj_V × List pj_V × List pj_C) := match pj_tk X 300 true M pc ls st h ((0 : Int) ≤ 0) with
  | some (P, pc', ls', st', h') => match k_cd M pc' with
    | some (i, nx, a, b, _, _, _) => match pj_cl i a b st' h' with
      | some (M', as, t) => some (P, M', as, nx, ls', t, h')
      | none => none
    | none => none
  | none => none
section WTR
variable {X : pj_X} {M pc : Nat} {ls st : List pj_V} {h : List pj_C} {Q : Option pj_V → List pj_C → Prop}
theorem wt_p (hw : pj_WP X M pc ls st h Q) : pj_WT X M pc ls st h Q := by
  obtain ⟨n, r, hf, h1, h2⟩ := hw
  exact ⟨n, r, hf, pj_Rn_al _ _ _ _ _ _ _ _ h1, h2⟩
theorem wt_h (h2 : List pj_C) (e : h = h2) (k : pj_WT X M pc ls st h2 Q) : pj_WT X M pc ls st h Q := e ▸ k
theorem wt_g {P : Prop} {pc' : Nat} {ls' st' : List pj_V} {h' : List pj_C} (e : pj_tk X 300 true M pc ls st h ((0 : Int) ≤ 0) = some (P, pc', ls', st', h')) (hP : P) (hn : pj_WT X M pc' ls' st' h' Q) : pj_WT X M pc ls st h Q := (pj_tk_sound _ _ _ _ _ _ _ _ _ _ _ _ _ e hP).2 hn
theorem wt_r {P : Prop} {r : Option pj_V} {h' : List pj_C} (e : pj_tn X M pc ls st h = some (P, r, h')) (hP : P) (hQ : Q r h') : pj_WT X M pc ls st h Q := by
  unfold pj_tn at e
  split at e
  · rename_i P1 pc1 ls1 st1 h1 hb1
    split at e
    · rename_i i nx a b c d hd hcd
      split at e
      · rename_i P2 v hrn
        cases e
        refine (pj_tk_sound _ _ _ _ _ _ _ _ _ _ _ _ _ hb1 hP.1).2 ⟨1, r, h', ?_, hQ⟩
        have hk := pj_rn_k hrn
        have hn := pj_s1_none1 (X := X) (al := true) (g := h') (nx := nx) (a := a) (b := b) (c := c) (ls2 := ls1) (st2 := st1) hk.1
        unfold pj_Rn
        simp only [hcd, hn, hk.2, hrn]
        exact ⟨hP.2, trivial, trivial⟩
      · cases e
    · cases e
  · cases e
/-- a call that may make new cells -/
theorem wt_c {P : Prop} {M' nx : Nat} {as ls' t : List pj_V} {h' : List pj_C} (e : pj_tc X M pc ls st h = some (P, M', as, nx, ls', t, h')) (hP : P)
    (hc : pj_WT X M' 0 (as ++ pj_rep (k_nL M' - as.length)) [] h' (fun r hc => (hc.length = h'.length ∨ pj_wfa ls' t h' = true) ∧ pj_WT X M nx ls' (r.toList ++ t) hc Q)) : pj_WT X M pc ls st h Q := by
  unfold pj_tc at e
  split at e
  · rename_i P1 pc1 ls1 st1 hh1 hb1
    split at e
    · rename_i i nx1 a b c d hd hcd
      split at e
      · rename_i M1 as1 t1 hcl
        cases e
        refine (pj_tk_sound _ _ _ _ _ _ _ _ _ _ _ _ _ hb1 hP).2 ?_
        obtain ⟨n, r, hf, hR, hl, n2, r2, hf2, hR2, hQ⟩ := hc
        obtain ⟨e2, e3, e4⟩ := pj_cl_k (X := X) (al := true) hcl
        refine ⟨max n n2 + 1, r2, hf2, ?_, hQ⟩
        unfold pj_Rn
        simp only [hcd, e2, e3, e4, hcl]
        exact ⟨r, hf, pj_Rn_le (Nat.le_max_left _ _) hR, hl, pj_Rn_le (Nat.le_max_right _ _) hR2⟩
      · cases e
    · cases e
  · cases e
/-- a call that makes none; the callee's contract speaks of its own cells -/
theorem wt_f {P : Prop} {M' nx : Nat} {as ls' t : List pj_V} {h' : List pj_C} (e : pj_tc X M pc ls st h = some (P, M', as, nx, ls', t, h')) (hP : P) (ρ : List Nat) {la : List pj_V} {hl : List pj_C}
    (hc : pj_WP X M' 0 (la ++ pj_rep (k_nL M' - la.length)) [] hl (fun r hl' => pj_WT X M nx ls' ((r.map (pj_rv ρ)).toList ++ t) (pj_gr ρ ρ hl' h') Q))
    (h1 : la.map (pj_rv ρ) = as) (h2 : pj_gr ρ ρ hl h' = h') (h3 : pj_sh ρ hl h' = true) (h4 : Nat.ble ρ.length 1000 = true) : pj_WT X M pc ls st h Q := by
  unfold pj_tc at e
  split at e
  · rename_i P1 pc1 ls1 st1 hh1 hb1
    split at e
    · rename_i i nx1 a b c d hd hcd
      split at e
      · rename_i M1 as1 t1 hcl
        cases e
        refine (pj_tk_sound _ _ _ _ _ _ _ _ _ _ _ _ _ hb1 hP).2 ?_
        obtain ⟨n, r, hf, hR, n2, r2, hf2, hR2, hQ⟩ := hc
        have hbd : pj_bd ρ := ⟨Nat.le_of_ble_eq_true h4, pj_sh_bd h3⟩
        obtain ⟨f1, f2⟩ := pj_frame hbd n _ _ _ _ _ _ _ hR h3
        obtain ⟨e2, e3, e4⟩ := pj_cl_k (X := X) (al := true) hcl
        refine ⟨max n n2 + 1, r2, hf2, ?_, hQ⟩
        unfold pj_Rn
        simp only [hcd, e2, e3, e4, hcl]
        refine ⟨r.map (pj_rv ρ), pj_gr ρ ρ hf h', ?_, Or.inl (by rw [pj_gr_len]), pj_Rn_le (Nat.le_max_right _ _) hR2⟩
        rw [List.map_append, pj_rep_map hbd, h1, h2] at f2
        rw [← h1, List.length_map, h1]
        exact pj_Rn_al _ _ _ _ _ _ _ _ (pj_Rn_le (Nat.le_max_left _ _) f2)
      · cases e
    · cases e
  · cases e
end WTR
