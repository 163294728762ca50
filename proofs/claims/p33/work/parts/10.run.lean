/-! branches, calls, returns: a whole run -/
theorem pj_s1_mono {X : pj_X} {al : Bool} {i : Instr} {nx a b1 c1 pc' : Nat} {ls st ls' st' : List pj_V} {h h' : List pj_C} {P : Prop} (he : pj_s1 X al i nx a b1 c1 ls st h = some (P, pc', ls', st', h')) : (h.length ≤ h'.length ∧ pj_tot h ≤ pj_tot h') ∧ (h.length ≤ 1000 → h'.length ≤ 1000) := by
  have same : (h.length ≤ h.length ∧ pj_tot h ≤ pj_tot h) ∧ (h.length ≤ 1000 → h.length ≤ 1000) := ⟨⟨Nat.le_refl _, Nat.le_refl _⟩, id⟩
  have set : ∀ {r : Nat} {q q' : pj_C}, pj_at h r = some q → pj_sz q' = pj_sz q → (h.length ≤ (h.set r q').length ∧ pj_tot h ≤ pj_tot (h.set r q')) ∧ (h.length ≤ 1000 → (h.set r q').length ≤ 1000) := fun hq hz => by
    rw [pj_tot_set hq hz, List.length_set]
    exact same
  have push : ∀ {ls st : List pj_V} {q' : pj_C}, pj_wfa ls st h = true → (h.length ≤ (h ++ [q']).length ∧ pj_tot h ≤ pj_tot (h ++ [q'])) ∧ (h.length ≤ 1000 → (h ++ [q']).length ≤ 1000) := fun hw => by
    have := (pj_wfa_spec hw).1
    rw [pj_tot_app]
    simp only [List.length_append, List.length_singleton]
    exact ⟨⟨by omega, by omega⟩, fun _ => by omega⟩
  unfold pj_s1 at he
  split at he
  case h_1 | h_2 => unfold pj_ldi at he; split at he <;> cases he; exact same
  case h_3 | h_4 =>
    unfold pj_lda at he
    split at he
    · obtain ⟨_, he⟩ := pj_cond he; cases he; exact same
    · cases he
  case h_5 | h_6 =>
    unfold pj_sti at he
    split at he
    · obtain ⟨_, he⟩ := pj_cond he; cases he; exact same
    · cases he
  case h_7 | h_8 =>
    unfold pj_sta at he
    split at he
    · obtain ⟨_, he⟩ := pj_cond he; cases he; exact same
    · cases he
  case h_9 | h_10 | h_11 => cases he; exact same
  case h_12 =>
    split at he
    · obtain ⟨_, he⟩ := pj_cond he; cases he; exact same
    · cases he
  case h_13 | h_14 | h_15 | h_16 | h_17 | h_18 | h_19 | h_20 | h_21 => split at he <;> cases he; exact same
  case h_22 => split at he <;> cases he; exact same
  case h_23 | h_24 | h_25 =>
    split at he
    · obtain ⟨_, he⟩ := pj_cond he; cases he; exact same
    · cases he
  case h_26 => cases he; exact same
  case h_27 =>
    split at he
    · split at he
      · split at he
        · obtain ⟨_, he⟩ := pj_cond he; cases he; exact same
        · cases he
      · cases he
    · cases he
  case h_28 =>
    split at he
    · split at he
      · rename_i hq
        obtain ⟨_, he⟩ := pj_cond he
        cases he
        exact set hq (by simp only [pj_sz, List.length_set])
      · cases he
    · split at he
      · rename_i hq
        obtain ⟨_, he⟩ := pj_cond he
        cases he
        exact set hq (by simp only [pj_sz, List.length_set])
      · cases he
    · cases he
  case h_29 =>
    split at he
    · rename_i j r t
      cases hr : Nat.beq r 1002 with
      | true => rw [hr] at he; cases he; exact same
      | false =>
        rw [hr] at he
        simp only [cond_false] at he
        split at he <;> cases he
        exact same
    · cases he
  case h_30 =>
    split at he
    · split at he <;> cases he
      exact same
    · cases he
  case h_31 | h_32 =>
    split at he
    · split at he
      · rename_i hq
        cases he
        exact set hq rfl
      · cases he
    · cases he
  case h_33 =>
    split at he
    · rename_i r t
      cases hr : Nat.beq r 1002 with
      | true => rw [hr] at he; cases he; exact same
      | false =>
        rw [hr] at he
        simp only [cond_false] at he
        split at he
        · obtain ⟨_, he⟩ := pj_cond he; cases he; exact same
        · cases he
    · cases he
  case h_34 =>
    obtain ⟨hc, he⟩ := pj_cond he
    simp only [Bool.and_eq_true] at hc
    cases he
    exact push hc.2
  case h_35 =>
    split at he
    · obtain ⟨hc, he⟩ := pj_cond he
      simp only [Bool.and_eq_true] at hc
      cases he
      exact push hc.2
    · cases he
  case h_36 =>
    split at he
    · split at he
      · obtain ⟨_, he⟩ := pj_cond he; cases he; exact same
      · cases he
    · cases he
  case h_37 =>
    split at he
    · split at he
      · split at he
        · rename_i hq0 hq1
          obtain ⟨_, he⟩ := pj_cond he
          cases he
          exact set hq1 rfl
        · cases he
      · cases he
    · cases he
  case h_38 => split at he <;> cases he; exact same
  case h_39 => cases he; exact same
  case h_40 | h_41 => obtain ⟨_, he⟩ := pj_cond he; cases he; exact same
  case h_42 | h_43 => obtain ⟨_, he⟩ := pj_cond he; unfold pj_ldl at he; split at he <;> cases he; exact same
  case h_44 | h_45 =>
    obtain ⟨_, he⟩ := pj_cond he
    unfold pj_stl at he
    split at he
    · obtain ⟨_, he⟩ := pj_cond he; cases he; exact same
    · cases he
  case h_46 | h_47 | h_48 | h_49 =>
    obtain ⟨_, he⟩ := pj_cond he
    split at he <;> cases he
    exact same
  case h_50 => cases he
theorem pj_Rn_mono {X : pj_X} {al : Bool} : ∀ (n M pc : Nat) (ls st : List pj_V) (h : List pj_C) (r : Option pj_V) (hf : List pj_C), pj_Rn X al n M pc ls st h r hf → (h.length ≤ hf.length ∧ pj_tot h ≤ pj_tot hf) ∧ (h.length ≤ 1000 → hf.length ≤ 1000)
  | 0, _, _, _, _, _, _, _, hR => False.elim hR
  | n + 1, M, pc, ls, st, h, r, hf, hR => by
    unfold pj_Rn at hR
    split at hR
    · exact False.elim hR
    · split at hR
      · rename_i he
        have h1 := pj_s1_mono he
        have h2 := pj_Rn_mono n _ _ _ _ _ _ _ hR.2
        exact ⟨⟨Nat.le_trans h1.1.1 h2.1.1, Nat.le_trans h1.1.2 h2.1.2⟩, fun z => h2.2 (h1.2 z)⟩
      · split at hR
        · rename_i k pt pf t hk
          by_cases hc : k
          · exact pj_Rn_mono n _ _ _ _ _ _ _ (hR.2.1 hc)
          · exact pj_Rn_mono n _ _ _ _ _ _ _ (hR.2.2 hc)
        · split at hR
          · obtain ⟨-, -, rfl⟩ := hR
            exact ⟨⟨Nat.le_refl _, Nat.le_refl _⟩, id⟩
          · split at hR
            · obtain ⟨rc, hc, h1, -, h2⟩ := hR
              have h1 := pj_Rn_mono n _ _ _ _ _ _ _ h1
              have h2 := pj_Rn_mono n _ _ _ _ _ _ _ h2
              exact ⟨⟨Nat.le_trans h1.1.1 h2.1.1, Nat.le_trans h1.1.2 h2.1.2⟩, fun z => h2.2 (h1.2 z)⟩
            · split at hR
              · obtain ⟨-, pt, -, h1⟩ := hR
                exact pj_Rn_mono n _ _ _ _ _ _ _ h1
              · exact False.elim hR
section RUN
variable {p : Program} {l : Launch} {e : Env} {R : Room} {s : State} {m : MethodId} {args : Array Value} {below : List Frame} {meth : Method} {c : Code} {D : va_G} {dA : Nat → ClassId} {A : Nat → Prop} {b M cells slots : Nat} {Q : State → Prop} {X : pj_X}
variable {α : Nat → Nat} {la : Array Slot} {H : Heap} {locs : List Loc} {ls st : List pj_V} {h : List pj_C} {al hd : Bool} {pc nx a b1 c1 d pc' : Nat} {P : Prop} {ls' st' : List pj_V} {h' : List pj_C} {i : Instr}
set_option maxHeartbeats 4000000 in
theorem sp_br {k : Prop} {pt pf : Nat} {t : List pj_V} (C : pj_Cx p R s m args meth c D dA A b X M) (hok : pj_okE M pc (i, nx, a, b1, c1, d, hd) = true) (he : pj_br i nx a st = some (P, k, pt, pf, t)) (hP : P)
    (kt : k → W p l e R s m args below meth c H locs cells slots Q (F0 m pt la (t.map (pj_cv α b)))) (kf : ¬ k → W p l e R s m args below meth c H locs cells slots Q (F0 m pf la (t.map (pj_cv α b)))) : W p l e R s m args below meth c H locs cells slots Q (F0 m pc la (st.map (pj_cv α b))) := by
  obtain ⟨hx, hb, -⟩ := C
  rw [pj_br_eq] at he
  unfold pj_brO at he
  split at he
  · rename_i cc o
    obtain ⟨hdg, rfl⟩ := pj_okE_dec hok rfl
    simp only [pj_okE, Bool.and_eq_true, decide_eq_true_eq] at hok
    have ht := hok.2
    split at he
    · rename_i x t'
      cases he
      have e0 : Int32.ofInt x = 0 ↔ x = 0 := by rw [← pj_z32]; exact pj_eq32 hP pj_rg0
      have e1 : Int32.ofInt x < 0 ↔ x < 0 := by rw [← pj_z32]; exact pj_lt32 hP pj_rg0
      have e2 : 0 ≤ Int32.ofInt x ↔ 0 ≤ x := by rw [← pj_z32]; exact pj_le32 pj_rg0 hP
      have e3 : 0 < Int32.ofInt x ↔ 0 < x := by rw [← pj_z32]; exact pj_lt32 pj_rg0 hP
      have e4 : Int32.ofInt x ≤ 0 ↔ x ≤ 0 := by rw [← pj_z32]; exact pj_le32 hP pj_rg0
      cases cc
      · exact lv_if_eq hx hb hdg ht (fun z => kt (e0.mp z)) (fun z => kf (fun y => z (e0.mpr y)))
      · exact lv_if_ne hx hb hdg ht (fun z => kt (fun y => z (e0.mpr y))) (fun z => kf (fun y => y (e0.mp z)))
      · exact lv_if_lt hx hb hdg ht (fun z => kt (e1.mp z)) (fun z => kf (fun y => z (e1.mpr y)))
      · exact lv_if_ge hx hb hdg ht (fun z => kt (e2.mp z)) (fun z => kf (fun y => z (e2.mpr y)))
      · exact lv_if_gt hx hb hdg ht (fun z => kt (e3.mp z)) (fun z => kf (fun y => z (e3.mpr y)))
      · exact lv_if_le hx hb hdg ht (fun z => kt (e4.mp z)) (fun z => kf (fun y => z (e4.mpr y)))
    · cases he
  · rename_i cc o
    obtain ⟨hdg, rfl⟩ := pj_okE_dec hok rfl
    simp only [pj_okE, Bool.and_eq_true, decide_eq_true_eq] at hok
    have ht := hok.2
    split at he
    · rename_i y x t'
      cases he
      have e0 := pj_eq32 hP.1 hP.2
      have e1 := pj_lt32 hP.1 hP.2
      have e2 := pj_le32 hP.2 hP.1
      have e3 := pj_lt32 hP.2 hP.1
      have e4 := pj_le32 hP.1 hP.2
      cases cc
      · exact lv_icmp_eq hx hb hdg ht (fun z => kt (e0.mp z)) (fun z => kf (fun y => z (e0.mpr y)))
      · exact lv_icmp_ne hx hb hdg ht (fun z => kt (fun y => z (e0.mpr y))) (fun z => kf (fun y => y (e0.mp z)))
      · exact lv_icmp_lt hx hb hdg ht (fun z => kt (e1.mp z)) (fun z => kf (fun y => z (e1.mpr y)))
      · exact lv_icmp_ge hx hb hdg ht (fun z => kt (e2.mp z)) (fun z => kf (fun y => z (e2.mpr y)))
      · exact lv_icmp_gt hx hb hdg ht (fun z => kt (e3.mp z)) (fun z => kf (fun y => z (e3.mpr y)))
      · exact lv_icmp_le hx hb hdg ht (fun z => kt (e4.mp z)) (fun z => kf (fun y => z (e4.mpr y)))
    · cases he
  · cases he
theorem sp_sw {x dd lo hi : Int} {offs : Array Int} {pt : Nat} {t : List pj_V} (C : pj_Cx p R s m args meth c D dA A b X M) (hok : pj_okE M pc (i, nx, a, b1, c1, d, hd) = true) (he : pj_sw i st = some (dd, lo, hi, offs, x, t)) (hx0 : pj_rg x)
    (ht : ((¬ x < lo ∧ ¬ hi < x) ∧ ∃ o, offs[(x - lo).toNat]? = some o ∧ (pc : Int) + o = (pt : Int)) ∨ ((x < lo ∨ hi < x) ∧ (pc : Int) + dd = (pt : Int)))
    (kt : W p l e R s m args below meth c H locs cells slots Q (F0 m pt la (t.map (pj_cv α b)))) : W p l e R s m args below meth c H locs cells slots Q (F0 m pc la (st.map (pj_cv α b))) := by
  obtain ⟨hx, hb, -⟩ := C
  unfold pj_sw at he
  split at he
  · split at he
    · cases he
      have hdg : decode (k_b M) pc = .ok (.tableswitch dd lo hi offs, nx - pc) := by
        simp only [pj_okE, Bool.and_eq_true, decide_eq_true_eq] at hok
        exact hok.1.1.1
      have hi32 := pj_i32 hx0
      rcases ht with ⟨⟨h1, h2⟩, o, ho, hto⟩ | ⟨h1, hto⟩
      · exact lv_tableIn (x := Int32.ofInt x) hx hb hdg (by rw [hi32]; exact h1) (by rw [hi32]; exact h2) (by rw [hi32]; exact ho) hto kt
      · exact lv_tableOut (x := Int32.ofInt x) hx hb hdg (by rw [hi32]; exact h1) hto kt
    · cases he
  · cases he
end RUN
