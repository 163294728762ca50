/-! the frame: a run over a few cells is a run over many, by places. The unknown value (.inr 1000) in an object stands for a field that isn't looked at. -/
def pj_rv (ρ : List Nat) : pj_V → pj_V
  | .inl z => .inl z
  | .inr k => match pj_at ρ k with
    | some j => .inr j
    | none => .inr k
def pj_mv (ρ : List Nat) : pj_V → pj_V → pj_V
  | .inl z, _ => .inl z
  | .inr k, o => bif Nat.beq k 1000 then o else pj_rv ρ (.inr k)
def pj_mf (ρ : List Nat) : List pj_V → List pj_V → List pj_V
  | n :: ns, o :: os => pj_mv ρ n o :: pj_mf ρ ns os
  | _, os => os
def pj_mc (ρ : List Nat) : pj_C → pj_C → pj_C
  | .inl x, _ => .inl x
  | .inr (_, fs), .inr (cj, gs) => .inr (cj, pj_mf ρ fs gs)
  | .inr _, .inl y => .inl y
def pj_gr (ρ0 : List Nat) : List Nat → List pj_C → List pj_C → List pj_C
  | r :: rs, c :: cs, h => match pj_at h r with
    | some o => pj_gr ρ0 rs cs (h.set r (pj_mc ρ0 c o))
    | none => pj_gr ρ0 rs cs h
  | _, _, h => h
/-- the shapes agree -/
def pj_sc : pj_C → pj_C → Bool
  | .inl _, .inl _ => true
  | .inr (ci, fs), .inr (cj, gs) => Nat.beq ci cj && Nat.beq fs.length gs.length
  | _, _ => false
def pj_sh : List Nat → List pj_C → List pj_C → Bool
  | r :: rs, c :: cs, h => (match pj_at h r with
    | some o => pj_sc c o
    | none => false) && (!(rs.contains r) && (Nat.ble r 999 && pj_sh rs cs h))
  | [], [], _ => true
  | _, _, _ => false
theorem pj_sh_len : ∀ {ρ : List Nat} {hl h : List pj_C}, pj_sh ρ hl h = true → ρ.length = hl.length
  | [], [], _, _ => rfl
  | r :: rs, c :: cs, h, hs => by
    simp only [pj_sh, Bool.and_eq_true] at hs
    simp only [List.length_cons, pj_sh_len (ρ := rs) hs.2.2.2]
  | [], _ :: _, _, hs => by cases hs
  | _ :: _, [], _, hs => by cases hs
theorem pj_gr_len (ρ0 : List Nat) : ∀ (rs : List Nat) (cs h : List pj_C), (pj_gr ρ0 rs cs h).length = h.length
  | [], _, _ => by unfold pj_gr; rfl
  | _ :: _, [], _ => by unfold pj_gr; rfl
  | r :: rs, c :: cs, h => by
    unfold pj_gr
    split
    · rw [pj_gr_len ρ0 rs cs, List.length_set]
    · exact pj_gr_len ρ0 rs cs h
theorem pj_gr_out (ρ0 : List Nat) : ∀ (rs : List Nat) (cs h : List pj_C) (k : Nat), k ∉ rs → pj_at (pj_gr ρ0 rs cs h) k = pj_at h k
  | [], _, _, _, _ => by unfold pj_gr; rfl
  | _ :: _, [], _, _, _ => by unfold pj_gr; rfl
  | r :: rs, c :: cs, h, k, hk => by
    have h1 : k ≠ r := fun e => hk (e ▸ List.mem_cons_self)
    have h2 : k ∉ rs := fun e => hk (List.mem_cons_of_mem _ e)
    unfold pj_gr
    split
    · rw [pj_gr_out ρ0 rs cs _ k h2, pj_at_set_ne h1]
    · exact pj_gr_out ρ0 rs cs h k h2
theorem pj_contains {r : Nat} {rs : List Nat} (h : (!(rs.contains r)) = true) : r ∉ rs := by
  intro hm
  rw [Bool.not_eq_true'] at h
  rw [List.contains_iff_mem.mpr hm] at h
  cases h
/-- the cell at a place -/
theorem pj_gr_in (ρ0 : List Nat) : ∀ (rs : List Nat) (cs h g : List pj_C), pj_sh rs cs g = true → (∀ k, k ∈ rs → pj_at h k = pj_at g k) → h.length = g.length → ∀ (i : Nat) (c : pj_C), pj_at cs i = some c → ∃ (j : Nat) (o : pj_C), pj_at rs i = some j ∧ pj_at g j = some o ∧ pj_sc c o = true ∧ j ≤ 999 ∧ pj_at (pj_gr ρ0 rs cs h) j = some (pj_mc ρ0 c o)
  | [], [], _, _, _, _, _, _, _, hc => by cases hc
  | [], _ :: _, _, _, hs, _, _, _, _, _ => by cases hs
  | _ :: _, [], _, _, hs, _, _, _, _, _ => by cases hs
  | r :: rs, c0 :: cs, h, g, hs, hg, hl, i, c, hc => by
    simp only [pj_sh, Bool.and_eq_true] at hs
    obtain ⟨h1, h2, h3, h4⟩ := hs
    have hr := pj_contains h2
    have hg0 := hg r List.mem_cons_self
    cases ho : pj_at g r with
    | none => rw [ho] at h1; cases h1
    | some o =>
      rw [ho] at h1 hg0
      have hstep : pj_gr ρ0 (r :: rs) (c0 :: cs) h = pj_gr ρ0 rs cs (h.set r (pj_mc ρ0 c0 o)) := by
        rw [pj_gr]
        rw [hg0]
      rw [hstep]
      cases i with
      | zero =>
        cases hc
        exact ⟨r, o, rfl, ho, h1, Nat.le_of_ble_eq_true h3, by rw [pj_gr_out ρ0 rs cs _ r hr, pj_at_set_self (pj_at_lt hg0)]⟩
      | succ i =>
        exact pj_gr_in ρ0 rs cs (h.set r (pj_mc ρ0 c0 o)) g h4 (fun k hk => by
          have hne : k ≠ r := fun e => hr (e ▸ hk)
          rw [pj_at_set_ne hne]
          exact hg k (List.mem_cons_of_mem _ hk)) (by rw [List.length_set]; exact hl) i c hc
theorem pj_gr_set (ρ0 : List Nat) : ∀ (rs : List Nat) (cs h g : List pj_C), pj_sh rs cs g = true → (∀ k, k ∈ rs → pj_at h k = pj_at g k) → ∀ (i j : Nat) (c c' o : pj_C), pj_at cs i = some c → pj_at rs i = some j → pj_at g j = some o → pj_gr ρ0 rs (cs.set i c') h = (pj_gr ρ0 rs cs h).set j (pj_mc ρ0 c' o)
  | [], _, _, _, _, _, _, _, _, _, _, _, hj, _ => by cases hj
  | _ :: _, [], _, _, hs, _, _, _, _, _, _, _, _, _ => by cases hs
  | r :: rs, c0 :: cs, h, g, hs, hg, i, j, c, c', o, hc, hj, ho => by
    simp only [pj_sh, Bool.and_eq_true] at hs
    obtain ⟨h1, h2, h3, h4⟩ := hs
    have hr := pj_contains h2
    have hg0 := hg r List.mem_cons_self
    cases ho0 : pj_at g r with
    | none => rw [ho0] at h1; cases h1
    | some o0 =>
      rw [ho0] at hg0
      have hstep : ∀ (d : pj_C) (ds : List pj_C), pj_gr ρ0 (r :: rs) (d :: ds) h = pj_gr ρ0 rs ds (h.set r (pj_mc ρ0 d o0)) := fun d ds => by
        rw [pj_gr]
        rw [hg0]
      cases i with
      | zero =>
        cases hj
        rw [ho0] at ho
        cases ho
        rw [List.set_cons_zero, hstep, hstep]
        have key : ∀ (rs : List Nat) (cs h : List pj_C) (x : pj_C), r ∉ rs → (pj_gr ρ0 rs cs h).set r x = pj_gr ρ0 rs cs (h.set r x) := by
          intro rs
          induction rs with
          | nil => intro cs h x _; unfold pj_gr; rfl
          | cons q qs ih =>
            intro cs h x hq
            cases cs with
            | nil => unfold pj_gr; rfl
            | cons d ds =>
              have e1 : q ≠ r := fun e => hq (e ▸ List.mem_cons_self)
              have e2 : r ∉ qs := fun e => hq (List.mem_cons_of_mem _ e)
              rw [pj_gr, pj_gr, pj_at_set_ne e1]
              split
              · rw [ih ds _ x e2, List.set_comm _ _ e1]
              · rw [ih ds _ x e2]
        rw [key rs cs _ _ hr, List.set_set]
      | succ i =>
        rw [List.set_cons_succ, hstep, hstep]
        exact pj_gr_set ρ0 rs cs (h.set r (pj_mc ρ0 c0 o0)) g h4 (fun k hk => by
          have hne : k ≠ r := fun e => hr (e ▸ hk)
          rw [pj_at_set_ne hne]
          exact hg k (List.mem_cons_of_mem _ hk)) i j c c' o hc hj ho
theorem pj_sh_set : ∀ (rs : List Nat) (cs g : List pj_C), pj_sh rs cs g = true → ∀ (i : Nat) (c c' : pj_C), pj_at cs i = some c → (∀ o, pj_sc c o = true → pj_sc c' o = true) → pj_sh rs (cs.set i c') g = true
  | [], [], _, _, _, _, _, hc, _ => by cases hc
  | [], _ :: _, _, hs, _, _, _, _, _ => by cases hs
  | _ :: _, [], _, hs, _, _, _, _, _ => by cases hs
  | r :: rs, c0 :: cs, g, hs, i, c, c', hc, hcc => by
    simp only [pj_sh, Bool.and_eq_true] at hs
    obtain ⟨h1, h2, h3, h4⟩ := hs
    cases i with
    | zero =>
      cases hc
      simp only [List.set_cons_zero, pj_sh, Bool.and_eq_true]
      refine ⟨?_, h2, h3, h4⟩
      split
      · rename_i o ho
        rw [ho] at h1
        exact hcc o h1
      · rename_i ho
        rw [ho] at h1
        cases h1
    | succ i =>
      simp only [List.set_cons_succ, pj_sh, Bool.and_eq_true]
      exact ⟨h1, h2, h3, pj_sh_set rs cs g h4 i c c' hc hcc⟩
theorem pj_mf_at (ρ : List Nat) : ∀ (fs gs : List pj_V) (b : Nat) (v : pj_V), fs.length = gs.length → pj_at fs b = some v → pj_ok v = true → pj_at (pj_mf ρ fs gs) b = some (pj_rv ρ v)
  | f :: fs, g :: gs, 0, v, _, hv, ho => by
    cases hv
    rw [pj_mf]
    show some (pj_mv ρ f g) = some (pj_rv ρ f)
    cases f with
    | inl z => rfl
    | inr k =>
      have hk : Nat.beq k 1000 = false := by
        simp only [pj_ok, Bool.or_eq_true] at ho
        rcases ho with ho | ho
        · have := Nat.le_of_ble_eq_true ho
          cases hz : Nat.beq k 1000 with
          | false => rfl
          | true => have := Nat.eq_of_beq_eq_true hz; omega
        · have := Nat.eq_of_beq_eq_true ho
          subst this
          rfl
      show some (bif Nat.beq k 1000 then g else pj_rv ρ (.inr k)) = _
      rw [hk]
      rfl
  | f :: fs, g :: gs, b + 1, v, hl, hv, ho => by
    rw [pj_mf]
    exact pj_mf_at ρ fs gs b v (by simpa using hl) hv ho
  | [], _, _, _, _, hv, _ => by cases hv
  | _ :: _, [], _, _, hl, _, _ => by cases hl
theorem pj_mf_len (ρ : List Nat) : ∀ (fs gs : List pj_V), fs.length = gs.length → (pj_mf ρ fs gs).length = gs.length
  | [], [], _ => rfl
  | f :: fs, g :: gs, hl => by
    rw [pj_mf, List.length_cons, List.length_cons, pj_mf_len ρ fs gs (by simpa using hl)]
  | [], _ :: _, hl => by cases hl
  | _ :: _, [], hl => by cases hl
theorem pj_mf_set (ρ : List Nat) : ∀ (fs gs : List pj_V) (b : Nat) (v : pj_V), fs.length = gs.length → b < fs.length → pj_ok v = true → pj_mf ρ (fs.set b v) gs = (pj_mf ρ fs gs).set b (pj_rv ρ v)
  | f :: fs, g :: gs, 0, v, _, _, ho => by
    have := pj_mf_at ρ [v] [g] 0 v rfl rfl ho
    rw [pj_mf] at this
    rw [List.set_cons_zero, pj_mf, pj_mf, List.set_cons_zero]
    have h2 : pj_mv ρ v g = pj_rv ρ v := Option.some.inj this
    rw [h2]
  | f :: fs, g :: gs, b + 1, v, hl, hb, ho => by
    rw [List.set_cons_succ, pj_mf, pj_mf, List.set_cons_succ, pj_mf_set ρ fs gs b v (by simpa using hl) (by simpa using hb) ho]
  | [], _, _, _, _, hb, _ => by cases hb
  | _ :: _, [], _, _, hl, _, _ => by cases hl
theorem pj_at_map2 (ρ : List Nat) : ∀ (l : List pj_V) (k : Nat), pj_at (l.map (pj_rv ρ)) k = (pj_at l k).map (pj_rv ρ)
  | [], _ => rfl
  | _ :: _, 0 => rfl
  | _ :: vs, k + 1 => pj_at_map2 ρ vs k
theorem pj_rv_ok {ρ : List Nat} (hρ : ∀ (i j : Nat), pj_at ρ i = some j → j ≤ 999) {v : pj_V} (h : pj_ok v = true) : pj_ok (pj_rv ρ v) = true := by
  cases v with
  | inl z => rfl
  | inr k =>
    simp only [pj_rv]
    split
    · rename_i j hj
      have := hρ k j hj
      simp only [pj_ok, Bool.or_eq_true]
      exact Or.inl (Nat.ble_eq_true_of_le this)
    · exact h
theorem pj_rv_u {ρ : List Nat} (hρ : ρ.length ≤ 1000) {k : Nat} (hk : 1000 ≤ k) : pj_rv ρ (.inr k) = .inr k := by
  simp only [pj_rv]
  split
  · rename_i j hj
    have := pj_at_lt hj
    omega
  · rfl
theorem pj_sh_bd : ∀ {rs : List Nat} {cs g : List pj_C}, pj_sh rs cs g = true → ∀ (i j : Nat), pj_at rs i = some j → j ≤ 999
  | [], _, _, _, _, _, hj => by cases hj
  | _ :: _, [], _, hs, _, _, _ => by cases hs
  | r :: rs, c0 :: cs, g, hs, i, j, hj => by
    simp only [pj_sh, Bool.and_eq_true] at hs
    cases i with
    | zero => cases hj; exact Nat.le_of_ble_eq_true hs.2.2.1
    | succ i => exact pj_sh_bd (rs := rs) hs.2.2.2 i j hj
