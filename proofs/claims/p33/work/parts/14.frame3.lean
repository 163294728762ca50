/-! the frame over a whole run; more fuel; what may be said of a run: WP -/
section FR3
variable {X : pj_X} {ρ : List Nat} {h0 : List pj_C}
def pj_bk1 : Instr → Bool
  | .ifCond _ _ => true
  | .if_icmp _ _ => true
  | .ireturn => true
  | .areturn => true
  | .lreturn => true
  | .return_ => true
  | .tableswitch _ _ _ _ => true
  | .invokevirtual _ => true
  | _ => false
theorem pj_s1_none1 {al : Bool} {g : List pj_C} {i : Instr} {nx a b c : Nat} {ls2 st2 : List pj_V} (hi : pj_bk1 i = true) : pj_s1 X al i nx a b c ls2 st2 g = none := by
  cases i <;> first | rfl | cases hi
theorem pj_br_k {i : Instr} {nx a : Nat} {st : List pj_V} {q} (he : pj_br i nx a st = some q) : pj_bk1 i = true := by
  rw [pj_br_eq] at he
  unfold pj_brO at he
  split at he
  · rfl
  · rfl
  · cases he
theorem pj_rn_k {i : Instr} {rt : Nat} {st : List pj_V} {q} (he : pj_rn rt i st = some q) : pj_bk1 i = true ∧ ∀ nx a st2, pj_br i nx a st2 = none := by
  unfold pj_rn at he
  split at he
  · exact ⟨rfl, fun _ _ _ => rfl⟩
  · exact ⟨rfl, fun _ _ _ => rfl⟩
  · exact ⟨rfl, fun _ _ _ => rfl⟩
  · exact ⟨rfl, fun _ _ _ => rfl⟩
  · cases he
theorem pj_sw_k {i : Instr} {st : List pj_V} {q} (he : pj_sw i st = some q) : pj_bk1 i = true ∧ (∀ nx a st2, pj_br i nx a st2 = none) ∧ (∀ rt st2, pj_rn rt i st2 = none) ∧ (∀ a b st2 h2, pj_cl i a b st2 h2 = none) := by
  unfold pj_sw at he
  split at he
  · refine ⟨rfl, fun _ _ _ => rfl, fun _ _ => rfl, fun a b st2 h2 => ?_⟩
    unfold pj_cl
    split <;> rfl
  · cases he
theorem pj_cl_k {al : Bool} {i : Instr} {a b : Nat} {st : List pj_V} {h : List pj_C} {q} (he : pj_cl i a b st h = some q) : (∀ nx c ls2 st2 g, pj_s1 X al i nx a b c ls2 st2 g = none) ∧ (∀ nx st2, pj_br i nx a st2 = none) ∧ (∀ rt st2, pj_rn rt i st2 = none) := by
  unfold pj_cl at he
  split at he
  · split at he
    · exact ⟨fun _ _ _ _ _ => rfl, fun _ _ => rfl, fun _ _ => rfl⟩
    · exact ⟨fun _ _ _ _ _ => rfl, fun _ _ => rfl, fun _ _ => rfl⟩
    · exact ⟨fun _ _ _ _ _ => rfl, fun _ _ => rfl, fun _ _ => rfl⟩
    · cases he
  · cases he
theorem pj_rn_frame (hb : pj_bd ρ) {i : Instr} {rt : Nat} {st : List pj_V} {P : Prop} {v : Option pj_V} (he : pj_rn rt i st = some (P, v)) (hP : P) : pj_rn rt i (st.map (pj_rv ρ)) = some (P, v.map (pj_rv ρ)) := by
  unfold pj_rn at he
  split at he
  · split at he
    · cases he; rfl
    · cases he
  · split at he
    · cases he; rfl
    · cases he; rfl
    · cases he
  · split at he
    · rename_i r
      obtain ⟨hc, he⟩ := pj_cond he
      cases he
      obtain ⟨r', f1, f2⟩ : ∃ r', pj_rv ρ (.inr r) = .inr r' ∧ Nat.ble r' 999 = true := by
        simp only [pj_rv]
        split
        · rename_i j hj
          exact ⟨j, rfl, Nat.ble_eq_true_of_le (hb.2 r j hj)⟩
        · exact ⟨r, rfl, hc⟩
      simp only [List.map_cons, List.map_nil, f1, Option.map_some]
      show (bif Nat.ble r' 999 then _ else none) = _
      rw [f2]
      rfl
    · cases he
  · split at he
    · cases he
      have hP : 2000 ≤ _ := hP
      simp only [List.map_cons, List.map_nil, Option.map_some, pj_rv_u hb.1 (Nat.le_trans (by omega) hP)]
      rfl
    · cases he
  · cases he
theorem pj_rc_frame (hb : pj_bd ρ) {kd ci : Nat} {as : List pj_V} {h : List pj_C} (hs : pj_sh ρ h h0 = true) (he : pj_rc kd ci as h = true) : pj_rc kd ci (as.map (pj_rv ρ)) (pj_gr ρ ρ h h0) = true := by
  unfold pj_rc at he ⊢
  split at he
  · rfl
  · split at he
    · rename_i r t
      split at he
      · rename_i hq
        obtain ⟨j, o, e1, e2, e3, e4, e5, e6⟩ := pj_gr_cell hs hq
        obtain ⟨gs, rfl, hl⟩ := pj_sc_inr e4
        simp only [List.map_cons, e1, e6, pj_mc]
        exact he
      · cases he
    · cases he
  · split at he
    · rename_i r t
      simp only [List.map_cons, pj_rv]
      cases hj : pj_at ρ r with
      | none => exact he
      | some j => exact Nat.ble_eq_true_of_le (hb.2 r j hj)
    · cases he
theorem pj_all_n2 (hb : pj_bd ρ) {l : List pj_V} (h : l.all pj_n2 = true) : (l.map (pj_rv ρ)).all pj_n2 = true := by
  rw [List.all_map, List.all_eq_true]
  intro v hv
  exact pj_rv_n2 hb.2 (List.all_eq_true.mp h v hv)
theorem pj_cl_frame (hb : pj_bd ρ) {i : Instr} {a b M' : Nat} {st as t : List pj_V} {h : List pj_C} (hs : pj_sh ρ h h0 = true) (he : pj_cl i a b st h = some (M', as, t)) : pj_cl i a b (st.map (pj_rv ρ)) (pj_gr ρ ρ h h0) = some (M', as.map (pj_rv ρ), t.map (pj_rv ρ)) := by
  unfold pj_cl at he
  split at he
  · split at he
    · obtain ⟨hc, he⟩ := pj_cond he
      have hc2 := hc
      simp only [Bool.and_eq_true] at hc2
      cases he
      have h8 := pj_all_n2 hb hc2.2.2
      rw [hc2.2.2] at hc
      simp only [pj_cl, ← List.map_drop, ← List.map_take, ← List.map_reverse, List.length_map, pj_rv_wd, h8]
      rw [hc]
      rfl
    · obtain ⟨hc, he⟩ := pj_cond he
      have hc2 := hc
      simp only [Bool.and_eq_true] at hc2
      cases he
      have h9 := pj_rc_frame hb hs hc2.1.1.2
      have h8 := pj_all_n2 hb hc2.2.2
      rw [hc2.1.1.2, hc2.2.2] at hc
      simp only [pj_cl, ← List.map_drop, ← List.map_take, ← List.map_reverse, List.length_map, pj_rv_wd, h8, h9]
      rw [hc]
      rfl
    · obtain ⟨hc, he⟩ := pj_cond he
      have hc2 := hc
      simp only [Bool.and_eq_true] at hc2
      cases he
      have h9 := pj_rc_frame hb hs hc2.1.1.2
      have h8 := pj_all_n2 hb hc2.2.2
      rw [hc2.1.1.2, hc2.2.2] at hc
      simp only [pj_cl, ← List.map_drop, ← List.map_take, ← List.map_reverse, List.length_map, pj_rv_wd, h8, h9]
      rw [hc]
      rfl
    · cases he
  · cases he
theorem pj_rep_map (hb : pj_bd ρ) : ∀ n, (pj_rep n).map (pj_rv ρ) = pj_rep n
  | 0 => rfl
  | n + 1 => by
    show pj_rv ρ (.inr 1000) :: (pj_rep n).map (pj_rv ρ) = _
    rw [pj_rep_map hb n, pj_rv_u hb.1 (Nat.le_refl _)]
    rfl
theorem pj_sw_frame {i : Instr} {st t : List pj_V} {dd lo hi x : Int} {offs : Array Int} (he : pj_sw i st = some (dd, lo, hi, offs, x, t)) : pj_sw i (st.map (pj_rv ρ)) = some (dd, lo, hi, offs, x, t.map (pj_rv ρ)) := by
  unfold pj_sw at he
  split at he
  · split at he
    · cases he; rfl
    · cases he
  · cases he
theorem pj_frame (hb : pj_bd ρ) : ∀ (n M pc : Nat) (ls st : List pj_V) (h : List pj_C) (r : Option pj_V) (hf : List pj_C), pj_Rn X false n M pc ls st h r hf → pj_sh ρ h h0 = true → pj_sh ρ hf h0 = true ∧ pj_Rn X false n M pc (ls.map (pj_rv ρ)) (st.map (pj_rv ρ)) (pj_gr ρ ρ h h0) (r.map (pj_rv ρ)) (pj_gr ρ ρ hf h0)
  | 0, _, _, _, _, _, _, _, hR, _ => False.elim hR
  | n + 1, M, pc, ls, st, h, r, hf, hR, hs => by
    unfold pj_Rn at hR ⊢
    split at hR
    · exact False.elim hR
    · split at hR
      · rename_i he
        obtain ⟨g1, g2⟩ := pj_s1_frame hb hs he
        obtain ⟨f1, f2⟩ := pj_frame hb n _ _ _ _ _ _ _ hR.2 g1
        refine ⟨f1, ?_⟩
        simp only [g2]
        exact ⟨hR.1, f2⟩
      · split at hR
        · rename_i P k pt pf t he
          have e1 := pj_br_frame (ρ := ρ) he
          have e2 := pj_br_k he
          simp only [pj_s1_none1 e2, e1]
          by_cases hk : k
          · obtain ⟨f1, f2⟩ := pj_frame hb n _ _ _ _ _ _ _ (hR.2.1 hk) hs
            exact ⟨f1, hR.1, fun _ => f2, fun z => absurd hk z⟩
          · obtain ⟨f1, f2⟩ := pj_frame hb n _ _ _ _ _ _ _ (hR.2.2 hk) hs
            exact ⟨f1, hR.1, fun z => absurd z hk, fun _ => f2⟩
        · split at hR
          · rename_i P v he
            obtain ⟨hP, rfl, rfl⟩ := hR
            have e1 := pj_rn_frame hb he hP
            have e2 := pj_rn_k he
            simp only [pj_s1_none1 e2.1, e2.2, e1]
            exact ⟨hs, hP, trivial, trivial⟩
          · split at hR
            · rename_i M' as t he
              obtain ⟨rc, hc, h1, h2, h3⟩ := hR
              obtain ⟨e2, e3, e4⟩ := pj_cl_k (X := X) (al := false) he
              obtain ⟨f1, f2⟩ := pj_frame hb n _ _ _ _ _ _ _ h1 hs
              obtain ⟨f3, f4⟩ := pj_frame hb n _ _ _ _ _ _ _ h3 f1
              refine ⟨f3, ?_⟩
              simp only [e2, e3, e4, pj_cl_frame hb hs he]
              refine ⟨rc.map (pj_rv ρ), pj_gr ρ ρ hc h0, ?_, Or.inl (by rw [pj_gr_len, pj_gr_len]), ?_⟩
              · rw [List.map_append, pj_rep_map hb] at f2
                rw [List.length_map]
                exact f2
              · rw [List.map_append] at f4
                have e9 : rc.toList.map (pj_rv ρ) = (rc.map (pj_rv ρ)).toList := by cases rc <;> rfl
                rw [e9] at f4
                exact f4
            · split at hR
              · rename_i dd lo hi offs x t he
                obtain ⟨hx, pt, ht, h3⟩ := hR
                obtain ⟨e1, e2, e3, e4⟩ := pj_sw_k he
                obtain ⟨f1, f2⟩ := pj_frame hb n _ _ _ _ _ _ _ h3 hs
                have e5 := pj_sw_frame (ρ := ρ) he
                refine ⟨f1, ?_⟩
                simp only [pj_s1_none1 e1, e2, e3, e4, e5]
                exact ⟨hx, pt, ht, f2⟩
              · exact False.elim hR
theorem pj_Rn_succ {al : Bool} : ∀ (n M pc : Nat) (ls st : List pj_V) (h : List pj_C) (r : Option pj_V) (hf : List pj_C), pj_Rn X al n M pc ls st h r hf → pj_Rn X al (n + 1) M pc ls st h r hf
  | 0, _, _, _, _, _, _, _, hR => False.elim hR
  | n + 1, M, pc, ls, st, h, r, hf, hR => by
    unfold pj_Rn at hR ⊢
    split at hR
    · exact False.elim hR
    · split at hR
      · rename_i he
        exact ⟨hR.1, pj_Rn_succ n _ _ _ _ _ _ _ hR.2⟩
      · rename_i hn
        split at hR
        · rename_i he
          exact ⟨hR.1, fun z => pj_Rn_succ n _ _ _ _ _ _ _ (hR.2.1 z), fun z => pj_Rn_succ n _ _ _ _ _ _ _ (hR.2.2 z)⟩
        · rename_i hn2
          split at hR
          · rename_i he
            exact hR
          · rename_i hn3
            split at hR
            · rename_i he
              obtain ⟨rc, hc, h1, h2, h3⟩ := hR
              exact ⟨rc, hc, pj_Rn_succ n _ _ _ _ _ _ _ h1, h2, pj_Rn_succ n _ _ _ _ _ _ _ h3⟩
            · rename_i hn4
              split at hR
              · rename_i he
                obtain ⟨hx, pt, ht, h3⟩ := hR
                exact ⟨hx, pt, ht, pj_Rn_succ n _ _ _ _ _ _ _ h3⟩
              · exact False.elim hR
theorem pj_Rn_le {al : Bool} {n n' M pc : Nat} {ls st : List pj_V} {h : List pj_C} {r : Option pj_V} {hf : List pj_C} (hn : n ≤ n') (hR : pj_Rn X al n M pc ls st h r hf) : pj_Rn X al n' M pc ls st h r hf := by
  obtain ⟨k, rfl⟩ := Nat.le.dest hn
  induction k with
  | zero => exact hR
  | succ k ih => exact pj_Rn_succ _ _ _ _ _ _ _ _ (ih (Nat.le_add_right _ _))
theorem pj_s1_al {i : Instr} {nx a b c : Nat} {ls st : List pj_V} {h : List pj_C} {q : pj_R} (he : pj_s1 X false i nx a b c ls st h = some q) : pj_s1 X true i nx a b c ls st h = some q := by
  unfold pj_s1 at he ⊢
  split at he
  case h_34 => cases he
  case h_35 => split at he <;> cases he
  case h_40 | h_41 | h_42 | h_43 | h_44 | h_45 | h_46 | h_47 | h_48 | h_49 => cases he
  all_goals exact he
end FR3
/-- WHAT IS SAID OF A RUN without anything new: it comes to its end, and Q holds of the answer and the cells -/
def pj_WP (X : pj_X) (M pc : Nat) (ls st : List pj_V) (h : List pj_C) (Q : Option pj_V → List pj_C → Prop) : Prop := ∃ (n : Nat) (r : Option pj_V) (hf : List pj_C), pj_Rn X false n M pc ls st h r hf ∧ Q r hf
/-- instructions that ask something -/
def pj_cn : Instr → Bool
  | .lload _ | .lload_n _ | .lstore _ | .lstore_n _ | .i2l | .lmul | .ladd | .lcmp | .idiv | .irem | .iaload | .baload | .iastore | .bastore | .newarray _ | .invokestatic _ => true
  | _ => false
/-- straight on, to a branch, a call, a return or a loop's head -/
def pj_bk (X : pj_X) : Nat → Bool → Nat → Nat → List pj_V → List pj_V → List pj_C → Prop → Option (Prop × Nat × List pj_V × List pj_V × List pj_C)
  | 0, _, _, _, _, _, _, _ => none
  | n + 1, first, M, pc, ls, st, h, P => match k_cd M pc with
    | some (i, nx, a, b, c, _, hd) => bif hd && !first then some (P, pc, ls, st, h) else match pj_s1 X false i nx a b c ls st h with
      | some (P', pc', ls', st', h') => bif pj_cn i then pj_bk X n false M pc' ls' st' h' (P ∧ P') else pj_bk X n false M pc' ls' st' h' P
      | none => some (P, pc, ls, st, h)
    | none => none
theorem pj_cn_ok {X : pj_X} {al : Bool} {i : Instr} {nx a b c pc' : Nat} {ls st ls' st' : List pj_V} {h h' : List pj_C} {P : Prop} (he : pj_s1 X al i nx a b c ls st h = some (P, pc', ls', st', h')) (hc : pj_cn i = false) : P := by
  unfold pj_s1 at he
  split at he
  all_goals first
    | (cases hc; done)
    | (cases he; done)
    | (unfold pj_ldi at he; split at he <;> cases he; trivial)
    | (unfold pj_lda at he; split at he; (obtain ⟨_, he⟩ := pj_cond he; cases he; trivial); cases he)
    | (unfold pj_sti at he; split at he; (obtain ⟨_, he⟩ := pj_cond he; cases he; trivial); cases he)
    | (unfold pj_sta at he; split at he; (obtain ⟨_, he⟩ := pj_cond he; cases he; trivial); cases he)
    | (unfold pj_b2 at he; split at he <;> cases he; trivial)
    | (cases he; trivial)
    | (split at he <;> cases he; trivial)
    | (obtain ⟨_, he⟩ := pj_cond he; cases he; trivial)
    | (split at he; (obtain ⟨_, he⟩ := pj_cond he; cases he; trivial); cases he)
    | skip
  · split at he
    · split at he
      · split at he
        · obtain ⟨_, he⟩ := pj_cond he; cases he; trivial
        · cases he
      · cases he
    · cases he
  · split at he
    · split at he
      · obtain ⟨_, he⟩ := pj_cond he; cases he; trivial
      · cases he
    · split at he
      · obtain ⟨_, he⟩ := pj_cond he; cases he; trivial
      · cases he
    · cases he
  · split at he
    · rename_i r t
      cases hr : Nat.beq r 1002 with
      | true => rw [hr] at he; cases he; trivial
      | false =>
        rw [hr] at he
        simp only [cond_false] at he
        split at he
        · obtain ⟨_, he⟩ := pj_cond he; cases he; trivial
        · cases he
    · cases he
  · split at he
    · split at he
      · obtain ⟨_, he⟩ := pj_cond he; cases he; trivial
      · cases he
    · cases he
theorem pj_bk_sound {X : pj_X} {Q : Option pj_V → List pj_C → Prop} : ∀ (n : Nat) (first : Bool) (M pc : Nat) (ls st : List pj_V) (h : List pj_C) (P P' : Prop) (pc' : Nat) (ls' st' : List pj_V) (h' : List pj_C), pj_bk X n first M pc ls st h P = some (P', pc', ls', st', h') → P' → P ∧ (pj_WP X M pc' ls' st' h' Q → pj_WP X M pc ls st h Q)
  | 0, _, _, _, _, _, _, _, _, _, _, _, _, he, _ => by cases he
  | n + 1, first, M, pc, ls, st, h, P, P', pc', ls', st', h', he, hP' => by
    unfold pj_bk at he
    split at he
    · rename_i i nx a b c d hd hcd
      cases hz : (hd && !first) with
      | true =>
        rw [hz] at he
        cases he
        exact ⟨hP', id⟩
      | false =>
        rw [hz] at he
        simp only [cond_false] at he
        split at he
        · rename_i P1 pc1 ls1 st1 h1 hs1
          have step : P1 → pj_WP X M pc1 ls1 st1 h1 Q → pj_WP X M pc ls st h Q := by
            rintro hP1 ⟨k, r, hf, hR, hQ⟩
            refine ⟨k + 1, r, hf, ?_, hQ⟩
            unfold pj_Rn
            simp only [hcd, hs1]
            exact ⟨hP1, hR⟩
          cases hc : pj_cn i with
          | true =>
            rw [hc] at he
            obtain ⟨⟨h1, h2⟩, h3⟩ := pj_bk_sound n false M pc1 ls1 st1 h1 _ P' pc' ls' st' h' he hP'
            exact ⟨h1, fun w => step h2 (h3 w)⟩
          | false =>
            rw [hc] at he
            obtain ⟨h1, h3⟩ := pj_bk_sound n false M pc1 ls1 st1 h1 _ P' pc' ls' st' h' he hP'
            exact ⟨h1, fun w => step (pj_cn_ok hs1 hc) (h3 w)⟩
        · cases he
          exact ⟨hP', id⟩
    · cases he
def pj_F : Nat := 300
def pj_bb (X : pj_X) (M pc : Nat) (ls st : List pj_V) (h : List pj_C) : Option (Prop × Prop × Nat × Nat × List pj_V × List pj_V × List pj_C) := match pj_bk X 300 true M pc ls st h ((0 : Int) ≤ 0) with
  | some (P, pc', ls', st', h') => match k_cd M pc' with
    | some (i, nx, a, _, _, _, _) => match pj_br i nx a st' with
      | some (P2, k, pt, pf, t) => some (P ∧ P2, k, pt, pf, ls', t, h')
      | none => none
    | none => none
  | none => none
def pj_bn (X : pj_X) (M pc : Nat) (ls st : List pj_V) (h : List pj_C) : Option (Prop × Option pj_V × List pj_C) := match pj_bk X 300 true M pc ls st h ((0 : Int) ≤ 0) with
  | some (P, pc', _, st', h') => match k_cd M pc' with
    | some (i, _, _, _, _, _, _) => match pj_rn (k_rt M) i st' with
      | some (P2, v) => some (P ∧ P2, v, h')
      | none => none
    | none => none
  | none => none
def pj_bc (X : pj_X) (M pc : Nat) (ls st : List pj_V) (h : List pj_C) : Option (Prop × Nat × List pj_V × Nat × List pj_V × List pj_V × List pj_C) := match pj_bk X 300 true M pc ls st h ((0 : Int) ≤ 0) with
  | some (P, pc', ls', st', h') => match k_cd M pc' with
    | some (i, nx, a, b, _, _, _) => match pj_cl i a b st' h' with
      | some (M', as, t) => some (P, M', as, nx, ls', t, h')
      | none => none
    | none => none
  | none => none
section WPR
variable {X : pj_X} {M pc : Nat} {ls st : List pj_V} {h : List pj_C} {Q : Option pj_V → List pj_C → Prop}
/-- on to a loop's head -/
theorem wp_g {P : Prop} {pc' : Nat} {ls' st' : List pj_V} {h' : List pj_C} (e : pj_bk X 300 true M pc ls st h ((0 : Int) ≤ 0) = some (P, pc', ls', st', h')) (hP : P) (hn : pj_WP X M pc' ls' st' h' Q) : pj_WP X M pc ls st h Q := (pj_bk_sound _ _ _ _ _ _ _ _ _ _ _ _ _ e hP).2 hn
/-- on to a branch -/
theorem wp_b {P k : Prop} {pt pf : Nat} {ls' t : List pj_V} {h' : List pj_C} (e : pj_bb X M pc ls st h = some (P, k, pt, pf, ls', t, h')) (hP : P) (ht : k → pj_WP X M pt ls' t h' Q) (hf : ¬ k → pj_WP X M pf ls' t h' Q) : pj_WP X M pc ls st h Q := by
  unfold pj_bb at e
  split at e
  · rename_i P1 pc1 ls1 st1 h1 hb1
    split at e
    · rename_i i nx a b c d hd hcd
      split at e
      · rename_i P2 k2 pt2 pf2 t2 hbr
        cases e
        refine (pj_bk_sound _ _ _ _ _ _ _ _ _ _ _ _ _ hb1 hP.1).2 ?_
        have hn := pj_s1_none1 (X := X) (al := false) (g := h') (nx := nx) (a := a) (b := b) (c := c) (ls2 := ls') (st2 := st1) (pj_br_k hbr)
        by_cases hk : k
        · obtain ⟨n, r, hf2, hR, hQ⟩ := ht hk
          refine ⟨n + 1, r, hf2, ?_, hQ⟩
          unfold pj_Rn
          simp only [hcd, hn, hbr]
          exact ⟨hP.2, fun _ => hR, fun z => absurd hk z⟩
        · obtain ⟨n, r, hf2, hR, hQ⟩ := hf hk
          refine ⟨n + 1, r, hf2, ?_, hQ⟩
          unfold pj_Rn
          simp only [hcd, hn, hbr]
          exact ⟨hP.2, fun z => absurd z hk, fun _ => hR⟩
      · cases e
    · cases e
  · cases e
/-- on to a return -/
theorem wp_r {P : Prop} {r : Option pj_V} {h' : List pj_C} (e : pj_bn X M pc ls st h = some (P, r, h')) (hP : P) (hQ : Q r h') : pj_WP X M pc ls st h Q := by
  unfold pj_bn at e
  split at e
  · rename_i P1 pc1 ls1 st1 h1 hb1
    split at e
    · rename_i i nx a b c d hd hcd
      split at e
      · rename_i P2 v hrn
        cases e
        refine (pj_bk_sound _ _ _ _ _ _ _ _ _ _ _ _ _ hb1 hP.1).2 ⟨1, r, h', ?_, hQ⟩
        have hk := pj_rn_k hrn
        have hn := pj_s1_none1 (X := X) (al := false) (g := h') (nx := nx) (a := a) (b := b) (c := c) (ls2 := ls1) (st2 := st1) hk.1
        unfold pj_Rn
        simp only [hcd, hn, hk.2, hrn]
        exact ⟨hP.2, trivial, trivial⟩
      · cases e
    · cases e
  · cases e
/-- on to a call; the callee's contract speaks of its own cells, by places ρ -/
theorem wp_c {P : Prop} {M' nx : Nat} {as ls' t : List pj_V} {h' : List pj_C} (e : pj_bc X M pc ls st h = some (P, M', as, nx, ls', t, h')) (hP : P) (ρ : List Nat) {la : List pj_V} {hl : List pj_C}
    (hc : pj_WP X M' 0 (la ++ pj_rep (k_nL M' - la.length)) [] hl (fun r hl' => pj_WP X M nx ls' ((r.map (pj_rv ρ)).toList ++ t) (pj_gr ρ ρ hl' h') Q))
    (h1 : la.map (pj_rv ρ) = as) (h2 : pj_gr ρ ρ hl h' = h') (h3 : pj_sh ρ hl h' = true) (h4 : Nat.ble ρ.length 1000 = true) : pj_WP X M pc ls st h Q := by
  unfold pj_bc at e
  split at e
  · rename_i P1 pc1 ls1 st1 hh1 hb1
    split at e
    · rename_i i nx1 a b c d hd hcd
      split at e
      · rename_i M1 as1 t1 hcl
        cases e
        refine (pj_bk_sound _ _ _ _ _ _ _ _ _ _ _ _ _ hb1 hP).2 ?_
        obtain ⟨n, r, hf, hR, n2, r2, hf2, hR2, hQ⟩ := hc
        have hbd : pj_bd ρ := ⟨Nat.le_of_ble_eq_true h4, pj_sh_bd h3⟩
        obtain ⟨f1, f2⟩ := pj_frame hbd n _ _ _ _ _ _ _ hR h3
        obtain ⟨e2, e3, e4⟩ := pj_cl_k (X := X) (al := false) hcl
        refine ⟨max n n2 + 1, r2, hf2, ?_, hQ⟩
        unfold pj_Rn
        simp only [hcd, e2, e3, e4, hcl]
        refine ⟨r.map (pj_rv ρ), pj_gr ρ ρ hf h', ?_, Or.inl (by rw [pj_gr_len]), pj_Rn_le (Nat.le_max_right _ _) hR2⟩
        rw [List.map_append, pj_rep_map hbd, h1, h2] at f2
        rw [← h1, List.length_map, h1]
        exact pj_Rn_le (Nat.le_max_left _ _) f2
      · cases e
    · cases e
  · cases e
/-- a call from its start -/
abbrev pj_ci (X : pj_X) (M : Nat) (la : List pj_V) (h : List pj_C) (Q : Option pj_V → List pj_C → Prop) : Prop := pj_WP X M 0 (la ++ pj_rep (k_nL M - la.length)) [] h Q
/-- the cells, written out -/
theorem wp_h (h2 : List pj_C) (e : h = h2) (k : pj_WP X M pc ls st h2 Q) : pj_WP X M pc ls st h Q := e ▸ k
theorem wp_m {Q' : Option pj_V → List pj_C → Prop} (hw : pj_WP X M pc ls st h Q') (hq : ∀ r hf, Q' r hf → Q r hf) : pj_WP X M pc ls st h Q := by
  obtain ⟨n, r, hf, h1, h2⟩ := hw
  exact ⟨n, r, hf, h1, hq _ _ h2⟩
end WPR
