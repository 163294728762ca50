/-! the frame, instruction by instruction, and over a whole run -/
section FR
variable {X : pj_X} {ρ : List Nat} {h0 : List pj_C}
/-- the cell of a place: an array is the same, an object's fields are those that are known -/
theorem pj_gr_cell {cs : List pj_C} (hs : pj_sh ρ cs h0 = true) {i : Nat} {c : pj_C} (hc : pj_at cs i = some c) : ∃ (j : Nat) (o : pj_C), pj_rv ρ (.inr i) = .inr j ∧ pj_at ρ i = some j ∧ pj_at h0 j = some o ∧ pj_sc c o = true ∧ j ≤ 999 ∧ pj_at (pj_gr ρ ρ cs h0) j = some (pj_mc ρ c o) := by
  obtain ⟨j, o, h1, h2, h3, h4, h5⟩ := pj_gr_in ρ ρ cs h0 h0 hs (fun _ _ => rfl) rfl i c hc
  exact ⟨j, o, by simp only [pj_rv, h1], h1, h2, h3, h4, h5⟩
theorem pj_gr_cell_set {cs : List pj_C} (hs : pj_sh ρ cs h0 = true) {i j : Nat} {c o : pj_C} (c' : pj_C) (hc : pj_at cs i = some c) (hj : pj_at ρ i = some j) (ho : pj_at h0 j = some o) : pj_gr ρ ρ (cs.set i c') h0 = (pj_gr ρ ρ cs h0).set j (pj_mc ρ c' o) := pj_gr_set ρ ρ cs h0 h0 hs (fun _ _ => rfl) i j c c' o hc hj ho
theorem pj_mc_inl (x : Nat × Nat × (Nat → Int)) (o : pj_C) : pj_mc ρ (.inl x) o = .inl x := by cases o <;> rfl
theorem pj_sc_inr {ci : Nat} {fs : List pj_V} {o : pj_C} (h : pj_sc (.inr (ci, fs)) o = true) : ∃ gs : List pj_V, o = .inr (ci, gs) ∧ fs.length = gs.length := by
  cases o with
  | inl y => cases h
  | inr y =>
    obtain ⟨cj, gs⟩ := y
    simp only [pj_sc, Bool.and_eq_true] at h
    have := Nat.eq_of_beq_eq_true h.1
    subst this
    exact ⟨gs, rfl, Nat.eq_of_beq_eq_true h.2⟩
theorem pj_sc_inl {x y : Nat × Nat × (Nat → Int)} (o : pj_C) (h : pj_sc (.inl x) o = true) : pj_sc (.inl y) o = true := by
  cases o <;> simp_all [pj_sc]
theorem pj_sc_inr2 {ci : Nat} {fs fs' : List pj_V} (hl : fs'.length = fs.length) (o : pj_C) (h : pj_sc (.inr (ci, fs)) o = true) : pj_sc (.inr (ci, fs')) o = true := by
  cases o with
  | inl y => cases h
  | inr y => simp only [pj_sc] at h ⊢; rw [hl]; exact h
theorem pj_rvl (z : Int) : pj_rv ρ (.inl z) = .inl z := rfl
theorem pj_rv_n2 (hb : ∀ (i j : Nat), pj_at ρ i = some j → j ≤ 999) {v : pj_V} (h : pj_n2 v = true) : pj_n2 (pj_rv ρ v) = true := by
  cases v with
  | inl z => rfl
  | inr r =>
    simp only [pj_rv]
    split
    · rename_i j hj
      have := hb r j hj
      exact Nat.ble_eq_true_of_le (by omega)
    · exact h
theorem pj_rv_nl (hb : ∀ (i j : Nat), pj_at ρ i = some j → j ≤ 999) {ls : List pj_V} : ∀ {k : Nat}, pj_nl ls k = true → pj_nl (ls.map (pj_rv ρ)) k = true
  | 0, _ => rfl
  | k + 1, h => by
    simp only [pj_nl, pj_at_map2] at h ⊢
    cases hz : pj_at ls k with
    | none => rfl
    | some v =>
      rw [hz] at h
      cases v with
      | inl z => rfl
      | inr r =>
        have h9 := pj_rv_n2 hb (v := .inr r) h
        cases hw : pj_rv ρ (.inr r) with
        | inl z => simp only [Option.map_some, hw]
        | inr r' => rw [hw] at h9; simp only [Option.map_some, hw]; exact h9
theorem pj_rv_wd : ∀ (l : List pj_V), pj_wd (l.map (pj_rv ρ)) = pj_wd l
  | [] => rfl
  | .inl z :: t => by simp only [List.map_cons, pj_rv, pj_wd, pj_rv_wd t]
  | .inr r :: t => by
    simp only [List.map_cons, pj_wd]
    cases hw : pj_rv ρ (.inr r) with
    | inl z => simp only [pj_rv] at hw; split at hw <;> cases hw
    | inr r' => simp only [pj_wd, pj_rv_wd t]
def pj_bd (ρ : List Nat) : Prop := ρ.length ≤ 1000 ∧ ∀ (i j : Nat), pj_at ρ i = some j → j ≤ 999
theorem pj_rv_ok2 (hb : pj_bd ρ) {r : Nat} (h : pj_ok (.inr r) = true) : ∃ r', pj_rv ρ (.inr r) = .inr r' ∧ pj_ok (.inr r') = true := by
  have h1 := pj_rv_ok hb.2 h
  cases hz : pj_rv ρ (.inr r) with
  | inl z => simp only [pj_rv] at hz; split at hz <;> cases hz
  | inr r' => rw [hz] at h1; exact ⟨r', rfl, h1⟩
theorem pj_rv_1002 (hb : pj_bd ρ) : pj_rv ρ (.inr 1002) = .inr 1002 := pj_rv_u hb.1 (by omega)
theorem pj_rv_ne1002 (hb : pj_bd ρ) {r : Nat} (hr : Nat.beq r 1002 = false) : ∃ r', pj_rv ρ (.inr r) = .inr r' ∧ Nat.beq r' 1002 = false := by
  simp only [pj_rv]
  split
  · rename_i j hj
    refine ⟨j, rfl, ?_⟩
    have := hb.2 r j hj
    cases hz : Nat.beq j 1002 with
    | false => rfl
    | true => have := Nat.eq_of_beq_eq_true hz; omega
  · exact ⟨r, rfl, hr⟩
theorem pj_f_ldi {nx k pc' : Nat} {ls st ls' st' : List pj_V} {h g h' : List pj_C} {P : Prop} (he : pj_ldi nx ls st h k = some (P, pc', ls', st', h')) : h' = h ∧ pj_ldi nx (ls.map (pj_rv ρ)) (st.map (pj_rv ρ)) g k = some (P, pc', ls'.map (pj_rv ρ), st'.map (pj_rv ρ), g) := by
  unfold pj_ldi at he ⊢
  split at he
  · rename_i z hz
    cases he
    rw [pj_at_map2, hz]
    exact ⟨rfl, rfl⟩
  · cases he
theorem pj_f_lda (hb : pj_bd ρ) {nx k pc' : Nat} {ls st ls' st' : List pj_V} {h g h' : List pj_C} {P : Prop} (he : pj_lda nx ls st h k = some (P, pc', ls', st', h')) : h' = h ∧ pj_lda nx (ls.map (pj_rv ρ)) (st.map (pj_rv ρ)) g k = some (P, pc', ls'.map (pj_rv ρ), st'.map (pj_rv ρ), g) := by
  unfold pj_lda at he ⊢
  split at he
  · rename_i r hz
    obtain ⟨ho, he⟩ := pj_cond he
    cases he
    obtain ⟨r', e1, e2⟩ := pj_rv_ok2 hb ho
    rw [pj_at_map2, hz]
    simp only [Option.map_some, List.map_cons, e1, e2, cond_true]
    exact ⟨trivial, trivial⟩
  · cases he
theorem pj_f_sti (hb : pj_bd ρ) {nx k pc' : Nat} {ls st ls' st' : List pj_V} {h g h' : List pj_C} {P : Prop} (he : pj_sti nx ls st h k = some (P, pc', ls', st', h')) : h' = h ∧ pj_sti nx (ls.map (pj_rv ρ)) (st.map (pj_rv ρ)) g k = some (P, pc', ls'.map (pj_rv ρ), st'.map (pj_rv ρ), g) := by
  unfold pj_sti at he ⊢
  split at he
  · obtain ⟨ho, he⟩ := pj_cond he
    rw [Bool.and_eq_true] at ho
    cases he
    refine ⟨rfl, ?_⟩
    simp only [List.map_cons, pj_rv, List.length_map, ho.1, pj_rv_nl hb.2 ho.2, Bool.and_self, cond_true, List.map_set]
  · cases he
theorem pj_f_sta (hb : pj_bd ρ) {nx k pc' : Nat} {ls st ls' st' : List pj_V} {h g h' : List pj_C} {P : Prop} (he : pj_sta nx ls st h k = some (P, pc', ls', st', h')) : h' = h ∧ pj_sta nx (ls.map (pj_rv ρ)) (st.map (pj_rv ρ)) g k = some (P, pc', ls'.map (pj_rv ρ), st'.map (pj_rv ρ), g) := by
  unfold pj_sta at he ⊢
  split at he
  · obtain ⟨ho, he⟩ := pj_cond he
    rw [Bool.and_eq_true, Bool.and_eq_true] at ho
    cases he
    obtain ⟨r', e1, e2⟩ := pj_rv_ok2 hb ho.1.1
    refine ⟨rfl, ?_⟩
    simp only [List.map_cons, e1, List.length_map, e2, ho.1.2, pj_rv_nl hb.2 ho.2, Bool.and_self, cond_true, List.map_set]
  · cases he
theorem pj_f_b2 {nx pc' : Nat} {ls st ls' st' : List pj_V} {h g h' : List pj_C} {P : Prop} {q : Int → Int → Prop} {f : Int → Int → Int} (he : pj_b2 nx ls st h q f = some (P, pc', ls', st', h')) : h' = h ∧ pj_b2 nx (ls.map (pj_rv ρ)) (st.map (pj_rv ρ)) g q f = some (P, pc', ls'.map (pj_rv ρ), st'.map (pj_rv ρ), g) := by
  unfold pj_b2 at he ⊢
  split at he
  · cases he
    exact ⟨rfl, rfl⟩
  · cases he
set_option maxHeartbeats 1000000 in
theorem pj_s1_frame (hb : pj_bd ρ) {i : Instr} {nx a b c pc' : Nat} {ls st ls' st' : List pj_V} {h h' : List pj_C} {P : Prop} (hs : pj_sh ρ h h0 = true) (he : pj_s1 X false i nx a b c ls st h = some (P, pc', ls', st', h')) :
    pj_sh ρ h' h0 = true ∧ pj_s1 X false i nx a b c (ls.map (pj_rv ρ)) (st.map (pj_rv ρ)) (pj_gr ρ ρ h h0) = some (P, pc', ls'.map (pj_rv ρ), st'.map (pj_rv ρ), pj_gr ρ ρ h' h0) := by
  have fin : ∀ {β : Option pj_R}, h' = h ∧ β = some (P, pc', ls'.map (pj_rv ρ), st'.map (pj_rv ρ), pj_gr ρ ρ h h0) → pj_sh ρ h' h0 = true ∧ β = some (P, pc', ls'.map (pj_rv ρ), st'.map (pj_rv ρ), pj_gr ρ ρ h' h0) := by
    rintro β ⟨rfl, h9⟩
    exact ⟨hs, h9⟩
  unfold pj_s1 at he
  split at he
  case h_1 => exact fin (pj_f_ldi he)
  case h_2 => exact fin (pj_f_ldi he)
  case h_3 => exact fin (pj_f_lda hb he)
  case h_4 => exact fin (pj_f_lda hb he)
  case h_5 => exact fin (pj_f_sti hb he)
  case h_6 => exact fin (pj_f_sti hb he)
  case h_7 => exact fin (pj_f_sta hb he)
  case h_8 => exact fin (pj_f_sta hb he)
  case h_9 => cases he; exact ⟨hs, rfl⟩
  case h_10 => cases he; exact ⟨hs, rfl⟩
  case h_11 => cases he; exact ⟨hs, rfl⟩
  case h_12 =>
    split at he
    · rename_i hx
      obtain ⟨hnl, he⟩ := pj_cond he
      cases he
      refine ⟨hs, ?_⟩
      simp only [pj_s1, pj_at_map2, hx, Option.map_some, pj_rvl, List.map_set, pj_rv_nl hb.2 hnl, cond_true]
    · cases he
  case h_13 => exact fin (pj_f_b2 he)
  case h_14 => exact fin (pj_f_b2 he)
  case h_15 => exact fin (pj_f_b2 he)
  case h_16 => exact fin (pj_f_b2 he)
  case h_17 => exact fin (pj_f_b2 he)
  case h_18 => exact fin (pj_f_b2 he)
  case h_19 => exact fin (pj_f_b2 he)
  case h_20 => exact fin (pj_f_b2 he)
  case h_21 => exact fin (pj_f_b2 he)
  case h_22 => split at he <;> cases he; exact ⟨hs, rfl⟩
  case h_23 =>
    split at he
    · obtain ⟨hc, he⟩ := pj_cond he
      cases he
      refine ⟨hs, ?_⟩
      simp only [pj_s1, List.map_cons, pj_rv_n2 hb.2 hc, cond_true]
    · cases he
  case h_24 =>
    split at he
    · obtain ⟨hc, he⟩ := pj_cond he
      rw [Bool.and_eq_true] at hc
      cases he
      refine ⟨hs, ?_⟩
      simp only [pj_s1, List.map_cons, pj_rv_n2 hb.2 hc.1, pj_rv_n2 hb.2 hc.2, Bool.and_self, cond_true]
    · cases he
  case h_25 =>
    split at he
    · obtain ⟨hc, he⟩ := pj_cond he
      cases he
      refine ⟨hs, ?_⟩
      simp only [pj_s1, List.map_cons, pj_rv_n2 hb.2 hc, cond_true]
    · cases he
  case h_26 => cases he; exact ⟨hs, rfl⟩
  case h_27 =>
    split at he
    · split at he
      · rename_i ci fs hq
        split at he
        · rename_i v hv
          obtain ⟨hc, he⟩ := pj_cond he
          rw [Bool.and_eq_true] at hc
          cases he
          obtain ⟨j, o, e1, e2, e3, e4, e5, e6⟩ := pj_gr_cell hs hq
          obtain ⟨gs, rfl, hl⟩ := pj_sc_inr e4
          refine ⟨hs, ?_⟩
          simp only [pj_s1, List.map_cons, pj_rvl, e1, e6, pj_mc, pj_mf_at ρ fs gs _ _ hl hv hc.2, hc.1, pj_rv_ok hb.2 hc.2, Bool.and_true, cond_true]
        · cases he
      · cases he
    · cases he
  case h_28 =>
    split at he
    · split at he
      · rename_i ci fs hq
        obtain ⟨hc, he⟩ := pj_cond he
        have hc0 := hc
        simp only [Bool.and_eq_true] at hc
        cases he
        obtain ⟨j, o, e1, e2, e3, e4, e5, e6⟩ := pj_gr_cell hs hq
        obtain ⟨gs, rfl, hl⟩ := pj_sc_inr e4
        refine ⟨pj_sh_set ρ h h0 hs _ _ _ hq (fun o => pj_sc_inr2 (by rw [List.length_set]) o), ?_⟩
        rw [pj_gr_cell_set hs _ hq e2 e3]
        simp only [pj_s1, List.map_cons, pj_rvl, e1, e6, pj_mc, pj_rvl, pj_mf_len ρ fs gs hl, ← hl, hc0, cond_true, pj_mf_set ρ fs gs _ (.inl _) hl (Nat.le_of_ble_eq_true hc.2.2) rfl]
      · cases he
    · split at he
      · rename_i ci fs hq
        obtain ⟨hc, he⟩ := pj_cond he
        simp only [Bool.and_eq_true] at hc
        cases he
        obtain ⟨j, o, e1, e2, e3, e4, e5, e6⟩ := pj_gr_cell hs hq
        obtain ⟨gs, rfl, hl⟩ := pj_sc_inr e4
        obtain ⟨v', f1, f2⟩ := pj_rv_ok2 hb hc.2.2.2
        refine ⟨pj_sh_set ρ h h0 hs _ _ _ hq (fun o => pj_sc_inr2 (by rw [List.length_set]) o), ?_⟩
        rw [pj_gr_cell_set hs _ hq e2 e3]
        simp only [pj_s1, List.map_cons, pj_rvl, e1, f1, e6, pj_mc, pj_mf_len ρ fs gs hl, ← hl, hc.1, hc.2.1, hc.2.2.1, f2, Bool.and_true, cond_true, pj_mf_set ρ fs gs _ (.inr _) hl (Nat.le_of_ble_eq_true hc.2.2.1) hc.2.2.2]
      · cases he
    · cases he
  case h_29 =>
    split at he
    · rename_i j r t
      cases hr : Nat.beq r 1002 with
      | true =>
        rw [hr] at he
        have := Nat.eq_of_beq_eq_true hr
        subst this
        cases he
        refine ⟨hs, ?_⟩
        simp only [pj_s1, List.map_cons, pj_rvl, pj_rv_1002 hb]
        try rfl
      | false =>
        rw [hr] at he
        simp only [cond_false] at he
        split at he
        · rename_i hq
          cases he
          obtain ⟨j', o, e1, e2, e3, e4, e5, e6⟩ := pj_gr_cell hs hq
          obtain ⟨r', f1, f2⟩ := pj_rv_ne1002 hb hr
          rw [e1] at f1
          cases f1
          refine ⟨hs, ?_⟩
          simp only [pj_s1, List.map_cons, pj_rvl, e1, f2, e6, pj_mc_inl, cond_false]
          try rfl
        · cases he
    · cases he
  case h_30 =>
    split at he
    · split at he
      · rename_i hq
        cases he
        obtain ⟨j', o, e1, e2, e3, e4, e5, e6⟩ := pj_gr_cell hs hq
        refine ⟨hs, ?_⟩
        simp only [pj_s1, List.map_cons, pj_rvl, e1, e6, pj_mc_inl]
        try rfl
      · cases he
    · cases he
  case h_31 =>
    split at he
    · split at he
      · rename_i hq
        cases he
        obtain ⟨j', o, e1, e2, e3, e4, e5, e6⟩ := pj_gr_cell hs hq
        refine ⟨pj_sh_set ρ h h0 hs _ _ _ hq (fun o => pj_sc_inl o), ?_⟩
        rw [pj_gr_cell_set hs _ hq e2 e3]
        simp only [pj_s1, List.map_cons, pj_rvl, e1, e6, pj_mc_inl]
        try rfl
      · cases he
    · cases he
  case h_32 =>
    split at he
    · split at he
      · rename_i hq
        cases he
        obtain ⟨j', o, e1, e2, e3, e4, e5, e6⟩ := pj_gr_cell hs hq
        refine ⟨pj_sh_set ρ h h0 hs _ _ _ hq (fun o => pj_sc_inl o), ?_⟩
        rw [pj_gr_cell_set hs _ hq e2 e3]
        simp only [pj_s1, List.map_cons, pj_rvl, e1, e6, pj_mc_inl]
        try rfl
      · cases he
    · cases he
  case h_33 =>
    split at he
    · rename_i r t
      cases hr : Nat.beq r 1002 with
      | true =>
        rw [hr] at he
        have := Nat.eq_of_beq_eq_true hr
        subst this
        cases he
        refine ⟨hs, ?_⟩
        simp only [pj_s1, List.map_cons, pj_rvl, pj_rv_1002 hb]
        try rfl
      | false =>
        rw [hr] at he
        simp only [cond_false] at he
        split at he
        · rename_i hq
          obtain ⟨hc, he⟩ := pj_cond he
          cases he
          obtain ⟨j', o, e1, e2, e3, e4, e5, e6⟩ := pj_gr_cell hs hq
          obtain ⟨r', f1, f2⟩ := pj_rv_ne1002 hb hr
          rw [e1] at f1
          cases f1
          refine ⟨hs, ?_⟩
          simp only [pj_s1, List.map_cons, pj_rvl, e1, f2, e6, pj_mc_inl, cond_false, hc, cond_true]
          try rfl
        · cases he
    · cases he
  case h_34 => cases he
  case h_35 => split at he <;> cases he
  case h_36 =>
    split at he
    · split at he
      · obtain ⟨hc, he⟩ := pj_cond he
        rw [Bool.and_eq_true] at hc
        cases he
        obtain ⟨r', f1, f2⟩ := pj_rv_ok2 hb hc.1
        refine ⟨hs, ?_⟩
        simp only [pj_s1, List.map_cons, pj_rvl, f1, f2, pj_rv_wd, hc.2, Bool.and_true, cond_true]
      · cases he
    · cases he
  case h_37 =>
    split at he
    · split at he
      · split at he
        · rename_i hq0 hq1
          obtain ⟨hc, he⟩ := pj_cond he
          cases he
          obtain ⟨j0, o0, e1, e2, e3, e4, e5, e6⟩ := pj_gr_cell hs hq0
          obtain ⟨j1, o1, d1, d2, d3, d4, d5, d6⟩ := pj_gr_cell hs hq1
          refine ⟨pj_sh_set ρ h h0 hs _ _ _ hq1 (fun o => pj_sc_inl o), ?_⟩
          rw [pj_gr_cell_set hs _ hq1 d2 d3]
          simp only [pj_s1, List.map_cons, pj_rvl, e1, d1, e6, d6, pj_mc_inl, pj_rv_wd, hc, cond_true]
          try rfl
        · cases he
      · cases he
    · cases he
  case h_38 => split at he <;> cases he; exact ⟨hs, rfl⟩
  case h_39 => cases he; exact ⟨hs, rfl⟩
  all_goals cases he
theorem pj_br_frame {i : Instr} {nx a pt pf : Nat} {st t : List pj_V} {P k : Prop} (he : pj_br i nx a st = some (P, k, pt, pf, t)) : pj_br i nx a (st.map (pj_rv ρ)) = some (P, k, pt, pf, t.map (pj_rv ρ)) := by
  rw [pj_br_eq] at he ⊢
  unfold pj_brO at he
  split at he
  · split at he
    · cases he; rfl
    · cases he
  · split at he
    · cases he; rfl
    · cases he
  · cases he
theorem pj_s1_none {h g : List pj_C} {i : Instr} {nx a b c : Nat} {ls st ls2 st2 : List pj_V} (hi : (match i with | .ifCond _ _ => true | .if_icmp _ _ => true | .ireturn => true | .areturn => true | .lreturn => true | .return_ => true | .tableswitch _ _ _ _ => true | .invokevirtual _ => true | _ => false) = true) : pj_s1 X false i nx a b c ls st h = none := by
  cases i <;> first | rfl | cases hi
end FR
