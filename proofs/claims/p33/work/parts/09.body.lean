/-! a run of the pure machine is one of the JVM's -/
theorem pj_cond {β : Type} {x : Bool} {a : Option β} {y : β} (h : (bif x then a else none) = some y) : x = true ∧ a = some y := by
  cases x
  · cases h
  · exact ⟨rfl, h⟩
section BODY
variable {p : Program} {l : Launch} {e : Env} {R : Room} {s : State} {m : MethodId} {args : Array Value} {below : List Frame} {meth : Method} {c : Code} {D : va_G} {dA : Nat → ClassId} {A : Nat → Prop} {b M cells slots : Nat} {Q : State → Prop} {X : pj_X}
variable {α : Nat → Nat} {la : Array Slot} {H : Heap} {locs : List Loc} {ls st : List pj_V} {h : List pj_C} {al hd : Bool} {pc nx a b1 c1 d pc' : Nat} {P : Prop} {ls' st' : List pj_V} {h' : List pj_C} {i : Instr}
set_option maxHeartbeats 4000000 in
theorem pj_step (C : pj_Cx p R s m args meth c D dA A b X M) (S : pj_St s D dA A b M α la H locs ls h) (hok : pj_okE M pc (i, nx, a, b1, c1, d, hd) = true) (he : pj_s1 X al i nx a b1 c1 ls st h = some (P, pc', ls', st', h')) (hP : P) (hcl : cells + (h'.length - h.length) ≤ R.cells) (hsl : slots + (pj_tot h' - pj_tot h) ≤ R.slots) (kk : pj_K p l e R s m args below meth c D dA A b M cells slots Q α h pc' ls' st' h') : W p l e R s m args below meth c H locs cells slots Q (F0 m pc la (st.map (pj_cv α b))) := by
  unfold pj_s1 at he
  split at he
  · exact sp_ldi (Or.inl rfl) C S hok he kk
  · exact sp_ldi (Or.inr ⟨_, rfl, rfl⟩) C S hok he kk
  · exact sp_lda (Or.inl rfl) C S hok he kk
  · exact sp_lda (Or.inr ⟨_, rfl, rfl⟩) C S hok he kk
  · exact sp_sti (Or.inl rfl) C S hok he kk
  · exact sp_sti (Or.inr ⟨_, rfl, rfl⟩) C S hok he kk
  · exact sp_sta (Or.inl rfl) C S hok he kk
  · exact sp_sta (Or.inr ⟨_, rfl, rfl⟩) C S hok he kk
  · cases he; exact sp_cst (Or.inl rfl) C S hok kk
  · cases he; exact sp_cst (Or.inr (Or.inl rfl)) C S hok kk
  · cases he; exact sp_cst (Or.inr (Or.inr rfl)) C S hok kk
  · split at he
    · rename_i hx0
      obtain ⟨hc, he⟩ := pj_cond he
      cases he
      exact sp_iinc hx0 hc C S hok kk
    · cases he
  · exact sp_bin C S hok (Or.inl ⟨rfl, rfl, rfl⟩) he hP kk
  · exact sp_bin C S hok (Or.inr (Or.inl ⟨rfl, rfl, rfl⟩)) he hP kk
  · exact sp_bin C S hok (Or.inr (Or.inr (Or.inl ⟨rfl, rfl, rfl⟩))) he hP kk
  · exact sp_bin C S hok (Or.inr (Or.inr (Or.inr (Or.inl ⟨rfl, rfl, rfl⟩)))) he hP kk
  · exact sp_bin C S hok (Or.inr (Or.inr (Or.inr (Or.inr (Or.inl ⟨rfl, rfl, rfl⟩))))) he hP kk
  · exact sp_bin C S hok (Or.inr (Or.inr (Or.inr (Or.inr (Or.inr (Or.inl ⟨rfl, rfl, rfl⟩)))))) he hP kk
  · exact sp_bin C S hok (Or.inr (Or.inr (Or.inr (Or.inr (Or.inr (Or.inr (Or.inl ⟨rfl, rfl, rfl⟩))))))) he hP kk
  · exact sp_bin C S hok (Or.inr (Or.inr (Or.inr (Or.inr (Or.inr (Or.inr (Or.inr (Or.inl ⟨rfl, rfl, rfl⟩)))))))) he hP kk
  · exact sp_bin C S hok (Or.inr (Or.inr (Or.inr (Or.inr (Or.inr (Or.inr (Or.inr (Or.inr (Or.inl ⟨rfl, rfl, rfl⟩))))))))) he hP kk
  · split at he
    · cases he; exact sp_ineg C S hok kk
    · cases he
  · split at he
    · obtain ⟨hc, he⟩ := pj_cond he
      cases he; exact sp_dup hc C S hok kk
    · cases he
  · split at he
    · obtain ⟨hc, he⟩ := pj_cond he
      cases he; exact sp_dup2 hc C S hok kk
    · cases he
  · split at he
    · obtain ⟨hc, he⟩ := pj_cond he
      cases he; exact sp_pop hc C S hok kk
    · cases he
  · cases he; exact sp_goto C S hok kk
  · split at he
    · split at he
      · rename_i hq
        split at he
        · rename_i hv
          obtain ⟨hc, he⟩ := pj_cond he
          cases he
          exact sp_get hq hv hc C S hok kk
        · cases he
      · cases he
    · cases he
  · split at he
    · split at he
      · rename_i hq
        obtain ⟨hc, he⟩ := pj_cond he
        simp only [Bool.and_eq_true] at hc
        cases he
        exact sp_put (Or.inl ⟨_, rfl, Nat.eq_of_beq_eq_true hc.2.1⟩) hq (Nat.eq_of_beq_eq_true hc.1) (Nat.le_of_ble_eq_true hc.2.2) C S hok kk
      · cases he
    · split at he
      · rename_i hq
        obtain ⟨hc, he⟩ := pj_cond he
        simp only [Bool.and_eq_true] at hc
        cases he
        exact sp_put (Or.inr ⟨_, rfl, Nat.eq_of_beq_eq_true hc.2.1, hc.2.2.2⟩) hq (Nat.eq_of_beq_eq_true hc.1) (Nat.le_of_ble_eq_true hc.2.2.1) C S hok kk
      · cases he
    · cases he
  · split at he
    · rename_i j r t
      cases hr : Nat.beq r 1002 with
      | true =>
        rw [hr] at he
        have := Nat.eq_of_beq_eq_true hr
        subst this
        cases he
        exact sp_sld hP C S hok kk
      | false =>
        rw [hr] at he
        simp only [cond_false] at he
        split at he
        · rename_i hq
          cases he
          exact sp_iald hq hP C S hok kk
        · cases he
    · cases he
  · split at he
    · split at he
      · rename_i hq
        cases he
        exact sp_bald hq hP C S hok kk
      · cases he
    · cases he
  · split at he
    · split at he
      · rename_i hq
        cases he
        exact sp_iast hq hP C S hok kk
      · cases he
    · cases he
  · split at he
    · split at he
      · rename_i hq
        cases he
        exact sp_bast hq hP C S hok kk
      · cases he
    · cases he
  · split at he
    · rename_i r t
      cases hr : Nat.beq r 1002 with
      | true =>
        rw [hr] at he
        have := Nat.eq_of_beq_eq_true hr
        subst this
        cases he
        exact sp_slen C S hok kk
      | false =>
        rw [hr] at he
        simp only [cond_false] at he
        split at he
        · rename_i hq
          obtain ⟨hc, he⟩ := pj_cond he
          cases he
          simp only [Bool.or_eq_true] at hc
          exact sp_alen (hc.imp Nat.eq_of_beq_eq_true Nat.eq_of_beq_eq_true) hq C S hok kk
        · cases he
    · cases he
  · obtain ⟨hc, he⟩ := pj_cond he
    simp only [Bool.and_eq_true] at hc
    cases he
    exact sp_new hc.2 C S hok hcl hsl kk
  · split at he
    · obtain ⟨hc, he⟩ := pj_cond he
      simp only [Bool.and_eq_true] at hc
      cases he
      exact sp_newa hc.2 hP C S hok hcl hsl kk
    · cases he
  · split at he
    · split at he
      · obtain ⟨hc, he⟩ := pj_cond he
        simp only [Bool.and_eq_true] at hc
        cases he
        exact sp_obj hc.1 (Nat.le_of_ble_eq_true hc.2) C S hok kk
      · cases he
    · cases he
  · split at he
    · split at he
      · split at he
        · rename_i hq0 hq1
          obtain ⟨hc, he⟩ := pj_cond he
          cases he
          exact sp_cpy hq0 hq1 (Nat.le_of_ble_eq_true hc) hP C S hok kk
        · cases he
      · cases he
    · cases he
  · exact sp_bin C S hok (Or.inr (Or.inr (Or.inr (Or.inr (Or.inr (Or.inr (Or.inr (Or.inr (Or.inr ⟨rfl, rfl, rfl⟩))))))))) he hP kk
  · cases he; exact sp_ldc C S hok kk
  · obtain ⟨-, he⟩ := pj_cond he
    cases he; exact sp_ldc2 C S hok kk
  · obtain ⟨-, he⟩ := pj_cond he
    cases he; exact sp_lconst C S hok kk
  · exact sp_ldl (Or.inl rfl) C S hok (pj_cond he).2 hP kk
  · exact sp_ldl (Or.inr ⟨_, rfl, rfl⟩) C S hok (pj_cond he).2 hP kk
  · exact sp_stl (Or.inl rfl) C S hok (pj_cond he).2 hP kk
  · exact sp_stl (Or.inr ⟨_, rfl, rfl⟩) C S hok (pj_cond he).2 hP kk
  · obtain ⟨-, he⟩ := pj_cond he
    split at he
    · cases he; exact sp_i2l hP C S hok kk
    · cases he
  · obtain ⟨-, he⟩ := pj_cond he
    split at he
    · cases he; exact sp_lmul hP C S hok kk
    · cases he
  · obtain ⟨-, he⟩ := pj_cond he
    split at he
    · cases he; exact sp_ladd hP C S hok kk
    · cases he
  · obtain ⟨-, he⟩ := pj_cond he
    split at he
    · cases he; exact sp_lcmp hP C S hok kk
    · cases he
  · cases he
end BODY
