/-! a vector comes to a subspace -/
section INS
variable {p : Int} {w : Nat}
/-- what is left of v over the rows -/
theorem ln_red_lead {R : Nat → ln_V} (hR : ln_R p w R) {v v1 : ln_V} (h1 : ln_eq p w v1 (fun c => v c - nn_sm w (fun r => v r * R r c))) {c : Nat} (hc : c < w) (hl : R c c ≠ 0) : nn_eq p (v1 c) 0 := by
  have h2 := h1 c hc
  have h2 : nn_eq p (v1 c) (v c - nn_sm w (fun r => v r * R r c)) := h2
  rw [ln_sm_lead hR v hc hl, Int.sub_self] at h2
  exact h2
theorem ln_red_in {R : Nat → ln_V} {v v1 : ln_V} (h1 : ln_eq p w v1 (fun c => v c - nn_sm w (fun r => v r * R r c))) : ln_in p w R v ↔ ∀ c, c < w → nn_eq p (v1 c) 0 := by
  constructor
  · intro h c hc
    refine nn_eq_trans (h1 c hc) ?_
    have h3 := nn_eq_sub (h c hc) (nn_eq_rfl p (nn_sm w (fun r => v r * R r c)))
    have h3 : nn_eq p (v c - nn_sm w (fun r => v r * R r c)) (nn_sm w (fun r => v r * R r c) - nn_sm w (fun r => v r * R r c)) := h3
    rw [Int.sub_self] at h3
    exact h3
  · intro h c hc
    have h2 := nn_eq_trans (nn_eq_symm (h1 c hc)) (h c hc)
    have h3 := nn_eq_add h2 (nn_eq_rfl p (nn_sm w (fun r => v r * R r c)))
    have h3 : nn_eq p (v c - nn_sm w (fun r => v r * R r c) + nn_sm w (fun r => v r * R r c)) (0 + nn_sm w (fun r => v r * R r c)) := h3
    rw [Int.sub_add_cancel, Int.zero_add] at h3
    exact h3
theorem ln_red_W {R : Nat → ln_V} {W : ln_P} (hW : ln_sub p w W) (hg : ln_g w R W) {v v1 : ln_V} (h1 : ln_eq p w v1 (fun c => v c - nn_sm w (fun r => v r * R r c))) : W v ↔ W v1 := by
  have hs := ln_sub_sm hW v w hg
  constructor
  · intro h
    refine hW.2.2.2 _ _ (ln_eq_symm (fun c hc => nn_eq_trans (h1 c hc) ?_)) (ln_sub_sub hW h hs 1)
    show nn_eq p (v c - nn_sm w (fun r => v r * R r c)) (v c - 1 * nn_sm w (fun r => v r * R r c))
    rw [Int.one_mul]
    exact nn_eq_rfl p _
  · intro h
    refine hW.2.2.2 _ _ (fun c hc => ?_) (hW.2.1 _ _ h hs)
    have h3 := nn_eq_add (h1 c hc) (nn_eq_rfl p (nn_sm w (fun r => v r * R r c)))
    have h3 : nn_eq p (v1 c + nn_sm w (fun r => v r * R r c)) (v c - nn_sm w (fun r => v r * R r c) + nn_sm w (fun r => v r * R r c)) := h3
    rw [Int.sub_add_cancel] at h3
    exact h3
theorem ln_scale_W {W : ln_P} (hW : ln_sub p w W) {v1 v2 : ln_V} {a b : Int} (hab : a * b % p = 1 % p) (h2 : ln_eq p w v2 (fun c => a * v1 c)) : W v1 ↔ W v2 := by
  constructor
  · intro h
    exact hW.2.2.2 _ _ (ln_eq_symm h2) (hW.2.2.1 a _ h)
  · intro h
    refine hW.2.2.2 _ _ (fun c hc => ?_) (hW.2.2.1 b _ h)
    have h3 := nn_eq_mul (nn_eq_rfl p b) (h2 c hc)
    refine nn_eq_trans h3 ?_
    have h4 : b * (a * v1 c) = a * b * v1 c := by rw [← Int.mul_assoc, Int.mul_comm b a]
    show nn_eq p (b * (a * v1 c)) (v1 c)
    rw [h4]
    have h5 := nn_eq_mul (nn_eq_iff.mpr hab) (nn_eq_rfl p (v1 c))
    rw [Int.one_mul] at h5
    exact h5
/-- the new matrix -/
theorem ln_ins {R R' : Nat → ln_V} (hR : ln_R p w R) (hp : 1 < p) {v2 : ln_V} {l : Nat} (hl : l < w) (hrg : ∀ c, c < w → 0 ≤ v2 c ∧ v2 c < p) (h1 : v2 l = 1) (h0 : ∀ c, c < l → v2 c = 0) (hz : ∀ r, r < w → R r r ≠ 0 → v2 r = 0)
    (hl' : ∀ c, c < w → R' l c = v2 c) (hr' : ∀ r c, r < w → r ≠ l → c < w → (0 ≤ R' r c ∧ R' r c < p) ∧ nn_eq p (R' r c) (R r c - R r l * v2 c)) :
    ln_R p w R' ∧ (∀ W, ln_sub p w W → (ln_g w R' W ↔ ln_g w R W ∧ W v2)) ∧ (∀ r, r < w → (R' r r = 0 ↔ (R r r = 0 ∧ r ≠ l))) := by
  have hll : R l l = 0 := Decidable.byContradiction fun z => by have := hz l hl z; omega
  have same : ∀ r c, r < w → r ≠ l → c < w → v2 c = 0 → R' r c = R r c := fun r c hr hne hc hv => by
    obtain ⟨a1, a2⟩ := hr' r c hr hne hc
    rw [hv, Int.mul_zero, Int.sub_zero] at a2
    exact nn_eq_red a2 a1 ((hR r hr).1 c hc)
  have diag : ∀ r, r < w → r ≠ l → (R' r r = R r r) := fun r hr hne => by
    by_cases h9 : R r r = 0
    · obtain ⟨a1, a2⟩ := hr' r r hr hne hr
      rw [ln_R_zero hR hr hl h9, Int.zero_mul, Int.sub_zero] at a2
      exact nn_eq_red a2 a1 ((hR r hr).1 r hr)
    · exact same r r hr hne hr (hz r hr h9)
  refine ⟨fun r hr => ⟨fun c hc => ?_, ?_⟩, fun W hW => ⟨fun hg => ?_, fun hg r hr => ?_⟩, fun r hr => ?_⟩
  · by_cases hne : r = l
    · subst hne; rw [hl' c hc]; exact hrg c hc
    · exact (hr' r c hr hne hc).1
  · by_cases hne : r = l
    · subst hne
      refine Or.inr ⟨by rw [hl' r hr]; exact h1, fun c hc => by rw [hl' c (by omega)]; exact h0 c hc, fun q hq hqr => ?_⟩
      obtain ⟨a1, a2⟩ := hr' q r hq hqr hr
      rw [h1, Int.mul_one, Int.sub_self] at a2
      exact nn_eq_red a2 a1 ⟨by omega, by omega⟩
    · by_cases h9 : R r r = 0
      · refine Or.inl (fun c hc => ?_)
        obtain ⟨a1, a2⟩ := hr' r c hr hne hc
        rw [ln_R_zero hR hr hl h9, Int.zero_mul, Int.sub_zero, ln_R_zero hR hr hc h9] at a2
        exact nn_eq_red a2 a1 ⟨by omega, by omega⟩
      · refine Or.inr ⟨by rw [diag r hr hne]; exact ln_R_one hR hr h9, fun c hc => ?_, fun q hq hqr => ?_⟩
        · obtain ⟨a1, a2⟩ := hr' r c hr hne (by omega)
          rw [ln_R_low hR hr hc] at a2
          by_cases hcl : c < l
          · rw [h0 c hcl, Int.mul_zero] at a2
            exact nn_eq_red a2 a1 ⟨by omega, by omega⟩
          · by_cases hlr : l < r
            · rw [ln_R_low hR hr hlr, Int.zero_mul] at a2
              exact nn_eq_red a2 a1 ⟨by omega, by omega⟩
            · omega
        · by_cases hql : q = l
          · subst hql
            rw [hl' r hr]
            exact hz r hr h9
          · rw [same q r hq hql hr (hz r hr h9)]
            exact ln_R_col hR hr hq h9 hqr
  · have hv2 : W v2 := hW.2.2.2 _ _ (fun c hc => by rw [hl' c hc]; exact nn_eq_rfl p _) (hg l hl)
    refine ⟨fun r hr => ?_, hv2⟩
    by_cases hne : r = l
    · subst hne
      exact hW.2.2.2 _ _ (fun c hc => by rw [ln_R_zero hR hr hc hll]; exact nn_eq_rfl p _) hW.1
    · refine hW.2.2.2 _ _ (fun c hc => ?_) (hW.2.1 _ _ (hg r hr) (hW.2.2.1 (R r l) _ hv2))
      have a2 := (hr' r c hr hne hc).2
      have a3 := nn_eq_add a2 (nn_eq_rfl p (R r l * v2 c))
      rw [Int.sub_add_cancel] at a3
      exact a3
  · obtain ⟨hg, hv2⟩ := hg
    by_cases hne : r = l
    · subst hne
      exact hW.2.2.2 _ _ (fun c hc => by rw [hl' c hc]; exact nn_eq_rfl p _) hv2
    · exact hW.2.2.2 _ _ (fun c hc => nn_eq_symm (hr' r c hr hne hc).2) (ln_sub_sub hW (hg r hr) hv2 (R r l))
  · by_cases hne : r = l
    · subst hne
      rw [hl' r hr, h1]
      exact ⟨fun z => by omega, fun z => absurd rfl z.2⟩
    · rw [diag r hr hne]
      exact ⟨fun z => ⟨z, hne⟩, fun z => z.1⟩
theorem ln_ct_ins {R R' : Nat → ln_V} {l : Nat} : ∀ n, l < n → R l l = 0 → (∀ r, r < n → (R' r r = 0 ↔ (R r r = 0 ∧ r ≠ l))) → ln_ct R' n = ln_ct R n + 1
  | n + 1, hl, h0, h => by
    show ln_ct R' n + _ = ln_ct R n + _ + 1
    by_cases hln : l = n
    · subst hln
      have e : ln_ct R' l = ln_ct R l := ln_ct_congr l (fun r hr => ⟨fun z => ((h r (by omega)).mp z).1, fun z => (h r (by omega)).mpr ⟨z, by omega⟩⟩)
      rw [e, if_pos h0, if_neg (fun z => ((h l (by omega)).mp z).2 rfl)]
    · have e := ln_ct_ins n (by omega) h0 (fun r hr => h r (by omega))
      rw [e]
      have e2 : (R' n n = 0) = (R n n = 0) := propext ⟨fun z => ((h n (by omega)).mp z).1, fun z => (h n (by omega)).mpr ⟨z, fun y => hln y.symm⟩⟩
      by_cases h9 : R n n = 0
      · rw [if_pos h9, if_pos (e2 ▸ h9)]
      · rw [if_neg h9, if_neg (fun z => h9 (e2 ▸ z))]
/-- R' is R with v: what a caller needs -/
def ln_join (p : Int) (w : Nat) (R : Nat → ln_V) (v : ln_V) (R' : Nat → ln_V) (b : Bool) : Prop :=
  ln_R p w R' ∧ (∀ W, ln_sub p w W → (ln_g w R' W ↔ ln_g w R W ∧ W v)) ∧ ln_ct R' w = ln_ct R w + (if b then 1 else 0) ∧ (b = true ↔ ¬ ln_in p w R v) ∧ (b = false → ∀ r c, r < w → c < w → R' r c = R r c)
theorem ln_g_mono {R : Nat → ln_V} {W W' : ln_P} (h : ∀ x, W x → W' x) (hg : ln_g w R W) : ln_g w R W' := fun r hr => h _ (hg r hr)
theorem ln_join_in {R R' : Nat → ln_V} {v : ln_V} {b : Bool} (h : ln_join p w R v R' b) : ln_in p w R' v ∧ ∀ x, ln_in p w R x → ln_in p w R' x := by
  obtain ⟨h1, h2, -⟩ := h
  have hg : ln_g w R' (ln_in p w R') := fun r hr => ln_in_row h1 hr
  have h3 := (h2 _ (ln_in_sub R')).mp hg
  exact ⟨h3.2, fun x hx => ln_in_W (ln_in_sub R') h3.1 hx⟩
theorem ln_join_same {R R' : Nat → ln_V} {v : ln_V} (hR : ln_R p w R) (hv : ln_in p w R v) (hs : ∀ r c, r < w → c < w → R' r c = R r c) : ln_join p w R v R' false := by
  refine ⟨fun r hr => ⟨fun c hc => by rw [hs r c hr hc]; exact (hR r hr).1 c hc, ?_⟩, fun W hW => ⟨fun hg => ?_, fun hg r hr => ?_⟩, ?_, ⟨fun z => (by cases z), fun z => absurd hv z⟩, fun _ => hs⟩
  · rcases (hR r hr).2 with h | h
    · exact Or.inl fun c hc => by rw [hs r c hr hc]; exact h c hc
    · exact Or.inr ⟨by rw [hs r r hr hr]; exact h.1, fun c hc => by rw [hs r c hr (by omega)]; exact h.2.1 c hc, fun q hq hne => by rw [hs q r hq hr]; exact h.2.2 q hq hne⟩
  · have hg2 : ln_g w R W := fun r hr => hW.2.2.2 _ _ (fun c hc => by rw [hs r c hr hc]; exact nn_eq_rfl p _) (hg r hr)
    exact ⟨hg2, ln_in_W hW hg2 hv⟩
  · exact hW.2.2.2 _ _ (fun c hc => by rw [hs r c hr hc]; exact nn_eq_rfl p _) (hg.1 r hr)
  · rw [ln_ct_congr w (fun r hr => by rw [hs r r hr hr])]
    rfl
end INS
